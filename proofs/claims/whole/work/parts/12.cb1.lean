set_option maxHeartbeats 4000000 in
set_option maxRecDepth 100000 in
theorem c_X1_nodes (l : Launch) (dC : Nat → ClassId) (dI : Nat → Nat → Nat) (cI cJ : ClassId) (h0 : Nat) (afbi : Nat) (afab : Nat) (afhd : Nat) (afin : Nat) (afjo : Nat) (afnu : Nat) (afre : Nat) (afse : Nat) (nv : Int32) (na : Int32) (fnu : Nat → Int32) (sz : Nat) (post : Int32 → Prop) (hsp : S_X1_nodes nv fnu post) : Met l yX1_nodes wsX1_nodes ({ frames := 0, cells := 0, slots := 0, locals := 0 }) (va_Pc [.ref h0] (fun U => U.heap.size = sz ∧ va_P (dC, dI) vwCl [(h0, .inr (1, [.int nv, .int na, .ref afbi, .ref afab, .ref afhd, .ref afin, .ref afjo, .ref afnu, .ref afre, .ref afse])), (afnu, .inl (cI, 60, .inl fnu))] U.heap ∧ va_K (dC, dI) vwCl [(cI, .int), (cJ, .long)] U ∧ va_D (fun _ => True) [(h0, .inr (1, [.int nv, .int na, .ref afbi, .ref afab, .ref afhd, .ref afin, .ref afjo, .ref afnu, .ref afre, .ref afse])), (afnu, .inl (cI, 60, .inl fnu))] ∧ nw U)) (va_Qi (fun (r : Int32) (u : Unit) => post r) (fun (u : Unit) (t : State) => va_P (dC, dI) vwCl [(h0, .inr (1, [.int nv, .int na, .ref afbi, .ref afab, .ref afhd, .ref afin, .ref afjo, .ref afnu, .ref afre, .ref afse])), (afnu, .inl (cI, 60, .inl fnu))] t.heap ∧ va_K (dC, dI) vwCl [(cI, .int), (cJ, .long)] t ∧ va_D (va_A [(h0, .inr (1, [.int nv, .int na, .ref afbi, .ref afab, .ref afhd, .ref afin, .ref afjo, .ref afnu, .ref afre, .ref afse])), (afnu, .inl (cI, 60, .inl fnu))] sz) [(h0, .inr (1, [.int nv, .int na, .ref afbi, .ref afab, .ref afhd, .ref afin, .ref afjo, .ref afnu, .ref afre, .ref afse])), (afnu, .inl (cI, 60, .inl fnu))]) (va_A [(h0, .inr (1, [.int nv, .int na, .ref afbi, .ref afab, .ref afhd, .ref afin, .ref afjo, .ref afnu, .ref afre, .ref afse])), (afnu, .inl (cI, 60, .inl fnu))] sz)) 0 0 (va_A [(h0, .inr (1, [.int nv, .int na, .ref afbi, .ref afab, .ref afhd, .ref afin, .ref afjo, .ref afnu, .ref afre, .ref afse])), (afnu, .inl (cI, 60, .inl fnu))] sz) := by
  refine Met.ofW (cc := cX1_nodes) (maxL := 3) (ret := (some .int)) (by decide) rfl ?_
  intro p e s m args below meth c s₁ B hml hv
  obtain ⟨rfl, hsz, hP, hK, hD0, hN⟩ := hv
  have hx := B.exec
  have hb := B.bytes
  have hr := B.returns
  have hts := atoms_spec (ws := wsX1_nodes) B.pre
  have hown : s.vm.findClass RX1 = some m.cls := findClass_of_methodNamed B.named
  have hlocks := B.notSynchronized
  subst hsz
  have hD := hD0.self (sz := s.heap.size)
  generalize hAe : va_A [(h0, .inr (1, [.int nv, .int na, .ref afbi, .ref afab, .ref afhd, .ref afin, .ref afjo, .ref afnu, .ref afre, .ref afse])), (afnu, .inl (cI, 60, .inl fnu))] s.heap.size = A at hD ⊢
  have hA : ∀ q : Nat, s.heap.size ≤ q → A q := fun q h => by rw [← hAe]; exact Or.inr h
  have hS : va_S A s.heap s.heap [] := va_S.rf
  have hl := lv_entry ([.ref h0]) (n := 3) (Nat.le_of_ble_eq_true rfl)
  rw [lg_entry_eq]
  generalize (lg_sl ([.ref h0]) ++ List.replicate (3 - (lg_sl ([.ref h0])).length) Slot.unset).toArray = ls at hl ⊢
  replace hl : lv_has ls 3 [(0, .ref h0)] := hl
  have hw0 := (show ∀ w ∈ wsX10, w ∈ wsX1_nodes from by decide +kernel)
  have hw1 := hts (.fieldLink RX1 9 "EffectNets$Net" "variables" "I") (by decide +kernel)
  have hw2 := hts (.fieldLink RX1 35 "EffectNets$Net" "numbers" "[I") (by decide +kernel)
  refine hsp _ (fun (x1 : Int32) (x2 : Int32) => ∀ (H : Heap) (locs : List Loc) (ls : Array Slot), va_P (dC, dI) vwCl [(h0, .inr (1, [.int nv, .int na, .ref afbi, .ref afab, .ref afhd, .ref afin, .ref afjo, .ref afnu, .ref afre, .ref afse])), (afnu, .inl (cI, 60, .inl fnu))] H → va_D A [(h0, .inr (1, [.int nv, .int na, .ref afbi, .ref afab, .ref afhd, .ref afin, .ref afjo, .ref afnu, .ref afre, .ref afse])), (afnu, .inl (cI, 60, .inl fnu))] → va_S A s.heap H locs → lv_has ls 3 [(0, .ref h0), (1, .int x1), (2, .int x2)] → W p l e (headSpec wsX1_nodes ({ frames := 0, cells := 0, slots := 0, locals := 0 })).room s m (List.toArray [.ref h0]) below meth c H locs 0 0 (MQ below (va_Qi (fun (r : Int32) (u : Unit) => post r) (fun (u : Unit) (t : State) => va_P (dC, dI) vwCl [(h0, .inr (1, [.int nv, .int na, .ref afbi, .ref afab, .ref afhd, .ref afin, .ref afjo, .ref afnu, .ref afre, .ref afse])), (afnu, .inl (cI, 60, .inl fnu))] t.heap ∧ va_K (dC, dI) vwCl [(cI, .int), (cJ, .long)] t ∧ va_D A [(h0, .inr (1, [.int nv, .int na, .ref afbi, .ref afab, .ref afhd, .ref afin, .ref afjo, .ref afnu, .ref afre, .ref afse])), (afnu, .inl (cI, 60, .inl fnu))]) A) (List.toArray [.ref h0]) s 0 0 A) (F0 m 4 ls [])) ?_ ?_
  · intro x1 x2 ht H locs ls hP hD hS hl
    refine lv_iload_n hx hb dX1_nodes_4 rfl (lv_at hl 2 rfl) ?_
    refine lv_aload_n hx hb dX1_nodes_5 rfl (lv_at hl 0 rfl) ?_
    refine va_get (D := (dC, dI)) (ci := 1) (v := .int nv) (C := RX1) (T := TX1) (N := 10) hx hb hts hw0 hown hK hP 0 rfl rfl 0 (by decide) hw1 (fun _ h9 => h9) rfl dX1_nodes_6 ?_
    refine lv_icmp_ge (tgt := 31) hx hb dX1_nodes_9 (by decide) (fun c1 => ?_) (fun c1 => ?_)
    · replace ht := ht.1 c1
      refine lv_iload_n hx hb dX1_nodes_31 rfl (lv_at hl 1 rfl) ?_
      have hP9 : va_P (dC, dI) vwCl [(h0, .inr (1, [.int nv, .int na, .ref afbi, .ref afab, .ref afhd, .ref afin, .ref afjo, .ref afnu, .ref afre, .ref afse])), (afnu, .inl (cI, 60, .inl fnu))] _ := hP
      have hD9 : va_D A [(h0, .inr (1, [.int nv, .int na, .ref afbi, .ref afab, .ref afhd, .ref afin, .ref afjo, .ref afnu, .ref afre, .ref afse])), (afnu, .inl (cI, 60, .inl fnu))] := hD
      exact W.iret (v := x1) hx hb hr (fun t ht9 hW => ⟨⟨x1, (), rfl, ht, by rw [ht9]; exact hP9, va_K.moved hW.alike hK, hD9⟩, hS.F ht9⟩) hS.2.2 dX1_nodes_32
    · replace ht := ht.2 c1
      refine lv_aload_n hx hb dX1_nodes_12 rfl (lv_at hl 0 rfl) ?_
      refine va_get (D := (dC, dI)) (ci := 1) (v := .ref afnu) (C := RX1) (T := TX1) (N := 10) hx hb hts hw0 hown hK hP 0 rfl rfl 7 (by decide) hw2 (fun _ h9 => h9) rfl dX1_nodes_13 ?_
      refine lv_iload_n hx hb dX1_nodes_16 rfl (lv_at hl 2 rfl) ?_
      obtain ⟨i2, ht⟩ := ht
      refine va_iald hx hb hK hP 1 0 rfl rfl i2 dX1_nodes_17 ?_
      refine lv_iload_n hx hb dX1_nodes_18 rfl (lv_at hl 2 rfl) ?_
      refine lv_icmp_ne (tgt := 25) hx hb dX1_nodes_19 (by decide) (fun c3 => ?_) (fun c3 => ?_)
      · replace ht := ht.1 c3
        obtain ⟨y4, ey4⟩ : ∃ y : Int32, y = x2 + 1 := ⟨_, rfl⟩
        replace ht := ht y4 ey4
        refine lv_iinc (v := y4) (lv' := [(2, .int y4), (0, .ref h0), (1, .int x1)]) hx hb dX1_nodes_25 hl (k := 2) rfl (by rw [ey4]; rfl) (by decide) rfl (fun ls hl => ?_)
        refine lv_goto (tgt := 4) hx hb dX1_nodes_28 (by decide) ?_
        exact ht _ _ _ hP hD hS (lv_sub hl [1, 2, 0] rfl)
      · replace ht := ht.2 c3
        obtain ⟨y5, ey5⟩ : ∃ y : Int32, y = x1 + 1 := ⟨_, rfl⟩
        replace ht := ht y5 ey5
        refine lv_iinc (v := y5) (lv' := [(1, .int y5), (0, .ref h0), (2, .int x2)]) hx hb dX1_nodes_22 hl (k := 1) rfl (by rw [ey5]; rfl) (by decide) rfl (fun ls hl => ?_)
        obtain ⟨y6, ey6⟩ : ∃ y : Int32, y = x2 + 1 := ⟨_, rfl⟩
        replace ht := ht y6 ey6
        refine lv_iinc (v := y6) (lv' := [(2, .int y6), (1, .int y5), (0, .ref h0)]) hx hb dX1_nodes_25 hl (k := 2) rfl (by rw [ey6]; rfl) (by decide) rfl (fun ls hl => ?_)
        refine lv_goto (tgt := 4) hx hb dX1_nodes_28 (by decide) ?_
        exact ht _ _ _ hP hD hS (lv_sub hl [2, 1, 0] rfl)
  · intro ht
    refine lv_iconst (v := 0) hx hb dX1_nodes_0 (by decide) ?_
    refine lv_istore_n (lv' := [(1, .int 0), (0, .ref h0)]) hx hb dX1_nodes_1 rfl hl (by decide) rfl (fun ls hl => ?_)
    refine lv_iconst (v := 0) hx hb dX1_nodes_2 (by decide) ?_
    refine lv_istore_n (lv' := [(2, .int 0), (1, .int 0), (0, .ref h0)]) hx hb dX1_nodes_3 rfl hl (by decide) rfl (fun ls hl => ?_)
    exact ht _ _ _ hP hD hS (lv_sub hl [2, 1, 0] rfl)
set_option maxHeartbeats 4000000 in
set_option maxRecDepth 100000 in
theorem c_X1_rings (l : Launch) (dC : Nat → ClassId) (dI : Nat → Nat → Nat) (cI cJ : ClassId) (h0 : Nat) (afbi : Nat) (afab : Nat) (afhd : Nat) (afin : Nat) (afjo : Nat) (afnu : Nat) (afre : Nat) (afse : Nat) (nv : Int32) (na : Int32) (fre : Nat → Int64) (sz : Nat) (post : Int32 → Prop) (hsp : S_X1_rings nv fre post) : Met l yX1_rings wsX1_rings ({ frames := 3, cells := 0, slots := 0, locals := 66 }) (va_Pc [.ref h0] (fun U => U.heap.size = sz ∧ va_P (dC, dI) vwCl [(h0, .inr (1, [.int nv, .int na, .ref afbi, .ref afab, .ref afhd, .ref afin, .ref afjo, .ref afnu, .ref afre, .ref afse])), (afre, .inl (cJ, 60, .inr (.inl fre)))] U.heap ∧ va_K (dC, dI) vwCl [(cI, .int), (cJ, .long)] U ∧ va_D (fun _ => True) [(h0, .inr (1, [.int nv, .int na, .ref afbi, .ref afab, .ref afhd, .ref afin, .ref afjo, .ref afnu, .ref afre, .ref afse])), (afre, .inl (cJ, 60, .inr (.inl fre)))] ∧ nw U)) (va_Qi (fun (r : Int32) (u : Unit) => post r) (fun (u : Unit) (t : State) => va_P (dC, dI) vwCl [(h0, .inr (1, [.int nv, .int na, .ref afbi, .ref afab, .ref afhd, .ref afin, .ref afjo, .ref afnu, .ref afre, .ref afse])), (afre, .inl (cJ, 60, .inr (.inl fre)))] t.heap ∧ va_K (dC, dI) vwCl [(cI, .int), (cJ, .long)] t ∧ va_D (va_A [(h0, .inr (1, [.int nv, .int na, .ref afbi, .ref afab, .ref afhd, .ref afin, .ref afjo, .ref afnu, .ref afre, .ref afse])), (afre, .inl (cJ, 60, .inr (.inl fre)))] sz) [(h0, .inr (1, [.int nv, .int na, .ref afbi, .ref afab, .ref afhd, .ref afin, .ref afjo, .ref afnu, .ref afre, .ref afse])), (afre, .inl (cJ, 60, .inr (.inl fre)))]) (va_A [(h0, .inr (1, [.int nv, .int na, .ref afbi, .ref afab, .ref afhd, .ref afin, .ref afjo, .ref afnu, .ref afre, .ref afse])), (afre, .inl (cJ, 60, .inr (.inl fre)))] sz)) 0 0 (va_A [(h0, .inr (1, [.int nv, .int na, .ref afbi, .ref afab, .ref afhd, .ref afin, .ref afjo, .ref afnu, .ref afre, .ref afse])), (afre, .inl (cJ, 60, .inr (.inl fre)))] sz) := by
  refine Met.ofW (cc := cX1_rings) (maxL := 3) (ret := (some .int)) (by decide) rfl ?_
  intro p e s m args below meth c s₁ B hml hv
  obtain ⟨rfl, hsz, hP, hK, hD0, hN⟩ := hv
  have hx := B.exec
  have hb := B.bytes
  have hr := B.returns
  have hts := atoms_spec (ws := wsX1_rings) B.pre
  have hown : s.vm.findClass RX1 = some m.cls := findClass_of_methodNamed B.named
  have hlocks := B.notSynchronized
  subst hsz
  have hD := hD0.self (sz := s.heap.size)
  generalize hAe : va_A [(h0, .inr (1, [.int nv, .int na, .ref afbi, .ref afab, .ref afhd, .ref afin, .ref afjo, .ref afnu, .ref afre, .ref afse])), (afre, .inl (cJ, 60, .inr (.inl fre)))] s.heap.size = A at hD ⊢
  have hA : ∀ q : Nat, s.heap.size ≤ q → A q := fun q h => by rw [← hAe]; exact Or.inr h
  have hS : va_S A s.heap s.heap [] := va_S.rf
  have hl := lv_entry ([.ref h0]) (n := 3) (Nat.le_of_ble_eq_true rfl)
  rw [lg_entry_eq]
  generalize (lg_sl ([.ref h0]) ++ List.replicate (3 - (lg_sl ([.ref h0])).length) Slot.unset).toArray = ls at hl ⊢
  replace hl : lv_has ls 3 [(0, .ref h0)] := hl
  have hw0 := (show ∀ w ∈ wsX10, w ∈ wsX1_rings from by decide +kernel)
  have hw1 := hts (.fieldLink RX1 9 "EffectNets$Net" "variables" "I") (by decide +kernel)
  refine hsp _ (fun (x1 : Int32) (x2 : Int32) => ∀ (H : Heap) (locs : List Loc) (ls : Array Slot), va_P (dC, dI) vwCl [(h0, .inr (1, [.int nv, .int na, .ref afbi, .ref afab, .ref afhd, .ref afin, .ref afjo, .ref afnu, .ref afre, .ref afse])), (afre, .inl (cJ, 60, .inr (.inl fre)))] H → va_D A [(h0, .inr (1, [.int nv, .int na, .ref afbi, .ref afab, .ref afhd, .ref afin, .ref afjo, .ref afnu, .ref afre, .ref afse])), (afre, .inl (cJ, 60, .inr (.inl fre)))] → va_S A s.heap H locs → lv_has ls 3 [(0, .ref h0), (1, .int x1), (2, .int x2)] → W p l e (headSpec wsX1_rings ({ frames := 3, cells := 0, slots := 0, locals := 66 })).room s m (List.toArray [.ref h0]) below meth c H locs 0 0 (MQ below (va_Qi (fun (r : Int32) (u : Unit) => post r) (fun (u : Unit) (t : State) => va_P (dC, dI) vwCl [(h0, .inr (1, [.int nv, .int na, .ref afbi, .ref afab, .ref afhd, .ref afin, .ref afjo, .ref afnu, .ref afre, .ref afse])), (afre, .inl (cJ, 60, .inr (.inl fre)))] t.heap ∧ va_K (dC, dI) vwCl [(cI, .int), (cJ, .long)] t ∧ va_D A [(h0, .inr (1, [.int nv, .int na, .ref afbi, .ref afab, .ref afhd, .ref afin, .ref afjo, .ref afnu, .ref afre, .ref afse])), (afre, .inl (cJ, 60, .inr (.inl fre)))]) A) (List.toArray [.ref h0]) s 0 0 A) (F0 m 4 ls [])) ?_ ?_
  · intro x1 x2 ht H locs ls hP hD hS hl
    refine lv_iload_n hx hb dX1_rings_4 rfl (lv_at hl 2 rfl) ?_
    refine lv_aload_n hx hb dX1_rings_5 rfl (lv_at hl 0 rfl) ?_
    refine va_get (D := (dC, dI)) (ci := 1) (v := .int nv) (C := RX1) (T := TX1) (N := 10) hx hb hts hw0 hown hK hP 0 rfl rfl 0 (by decide) hw1 (fun _ h9 => h9) rfl dX1_rings_6 ?_
    refine lv_icmp_ge (tgt := 30) hx hb dX1_rings_9 (by decide) (fun c1 => ?_) (fun c1 => ?_)
    · replace ht := ht.1 c1
      refine lv_iload_n hx hb dX1_rings_30 rfl (lv_at hl 1 rfl) ?_
      have hP9 : va_P (dC, dI) vwCl [(h0, .inr (1, [.int nv, .int na, .ref afbi, .ref afab, .ref afhd, .ref afin, .ref afjo, .ref afnu, .ref afre, .ref afse])), (afre, .inl (cJ, 60, .inr (.inl fre)))] _ := hP
      have hD9 : va_D A [(h0, .inr (1, [.int nv, .int na, .ref afbi, .ref afab, .ref afhd, .ref afin, .ref afjo, .ref afnu, .ref afre, .ref afse])), (afre, .inl (cJ, 60, .inr (.inl fre)))] := hD
      exact W.iret (v := x1) hx hb hr (fun t ht9 hW => ⟨⟨x1, (), rfl, ht, by rw [ht9]; exact hP9, va_K.moved hW.alike hK, hD9⟩, hS.F ht9⟩) hS.2.2 dX1_rings_31
    · replace ht := ht.2 c1
      refine lv_aload_n hx hb dX1_rings_12 rfl (lv_at hl 0 rfl) ?_
      refine lv_iload_n hx hb dX1_rings_13 rfl (lv_at hl 2 rfl) ?_
      have hPc := hP.sub (ws' := [(h0, .inr (1, [.int nv, .int na, .ref afbi, .ref afab, .ref afhd, .ref afin, .ref afjo, .ref afnu, .ref afre, .ref afse])), (afre, .inl (cJ, 60, .inr (.inl fre)))]) [0, 1] rfl
      have hDc := hD.sub (ws' := [(h0, .inr (1, [.int nv, .int na, .ref afbi, .ref afab, .ref afhd, .ref afin, .ref afjo, .ref afnu, .ref afre, .ref afse])), (afre, .inl (cJ, 60, .inr (.inl fre)))]) [0, 1] (by decide) rfl
      have hFc := va_free (wc := [(h0, .inr (1, [.int nv, .int na, .ref afbi, .ref afab, .ref afhd, .ref afin, .ref afjo, .ref afnu, .ref afre, .ref afse])), (afre, .inl (cJ, 60, .inr (.inl fre)))]) hD hS hA [0, 1] rfl
      refine va_calli (va_runV (As := [.int x2]) (rest := []) ⟨hx, hb, hml, hown, hts⟩ (c_X1_leastOfRing l dC dI cI cJ h0 afbi afab afhd afin afjo afnu afre afse nv na fre H.size x2 _ ht) (cwV 1 hts gX1_rings_X1_leastOfRing rfl rfl rfl (by decide +kernel) ⟨Nat.le_of_ble_eq_true rfl, Nat.le_of_ble_eq_true rfl⟩) ⟨fun a U g mk q => by obtain ⟨q0, q1, qP, qK, qD, qN⟩ := q; exact ⟨q0, q1, qP, va_K.moved (u := U) (U := U.calling g mk a) (Vm.Alike.refl U.vm) qK, qD, nw_same rfl qN⟩, va_recv hK hP (ci := 1) (q0 := 0) rfl rfl, fun U hU hW => ⟨rfl, by rw [hU], by rw [hU]; exact hPc, va_K.moved hW.alike hK, hDc.weaken (fun _ _ _ _ => trivial), nw_warm hW hN⟩⟩ rfl rfl hl.1 rfl (lv_room (Nat.le_of_ble_eq_true rfl)) dX1_rings_14 ⟨Nat.le_of_ble_eq_true rfl, Nat.le_of_ble_eq_true rfl⟩) hS (fun q _ h => hFc q h) hFc (fun r2 u t H1 locs ht9 hvm hw hB hz1 hk1 hS => ?_)
      obtain ⟨hP1, hK1, hD1⟩ := hB
      rw [ht9] at hP1
      try dsimp only at hw
      replace ht := hw
      obtain ⟨hP, hD⟩ := va_join (wr := []) (w1 := [(h0, .inr (1, [.int nv, .int na, .ref afbi, .ref afab, .ref afhd, .ref afin, .ref afjo, .ref afnu, .ref afre, .ref afse])), (afre, .inl (cJ, 60, .inr (.inl fre)))]) hP hD [0, 1] [] rfl rfl (by decide) (by decide) hk1 hFc hP1 hD1
      generalize H1 = H at hP hS ⊢
      replace hP : va_P (dC, dI) vwCl [(h0, .inr (1, [.int nv, .int na, .ref afbi, .ref afab, .ref afhd, .ref afin, .ref afjo, .ref afnu, .ref afre, .ref afse])), (afre, .inl (cJ, 60, .inr (.inl fre)))] H := hP
      replace hD : va_D A [(h0, .inr (1, [.int nv, .int na, .ref afbi, .ref afab, .ref afhd, .ref afin, .ref afjo, .ref afnu, .ref afre, .ref afse])), (afre, .inl (cJ, 60, .inr (.inl fre)))] := hD
      refine lv_iload_n hx hb dX1_rings_17 rfl (lv_at hl 2 rfl) ?_
      refine lv_icmp_ne (tgt := 24) hx hb dX1_rings_18 (by decide) (fun c3 => ?_) (fun c3 => ?_)
      · replace ht := ht.1 c3
        obtain ⟨y4, ey4⟩ : ∃ y : Int32, y = x2 + 1 := ⟨_, rfl⟩
        replace ht := ht y4 ey4
        refine lv_iinc (v := y4) (lv' := [(2, .int y4), (0, .ref h0), (1, .int x1)]) hx hb dX1_rings_24 hl (k := 2) rfl (by rw [ey4]; rfl) (by decide) rfl (fun ls hl => ?_)
        refine lv_goto (tgt := 4) hx hb dX1_rings_27 (by decide) ?_
        exact ht _ _ _ hP hD hS (lv_sub hl [1, 2, 0] rfl)
      · replace ht := ht.2 c3
        obtain ⟨y5, ey5⟩ : ∃ y : Int32, y = x1 + 1 := ⟨_, rfl⟩
        replace ht := ht y5 ey5
        refine lv_iinc (v := y5) (lv' := [(1, .int y5), (0, .ref h0), (2, .int x2)]) hx hb dX1_rings_21 hl (k := 1) rfl (by rw [ey5]; rfl) (by decide) rfl (fun ls hl => ?_)
        obtain ⟨y6, ey6⟩ : ∃ y : Int32, y = x2 + 1 := ⟨_, rfl⟩
        replace ht := ht y6 ey6
        refine lv_iinc (v := y6) (lv' := [(2, .int y6), (1, .int y5), (0, .ref h0)]) hx hb dX1_rings_24 hl (k := 2) rfl (by rw [ey6]; rfl) (by decide) rfl (fun ls hl => ?_)
        refine lv_goto (tgt := 4) hx hb dX1_rings_27 (by decide) ?_
        exact ht _ _ _ hP hD hS (lv_sub hl [2, 1, 0] rfl)
  · intro ht
    refine lv_iconst (v := 0) hx hb dX1_rings_0 (by decide) ?_
    refine lv_istore_n (lv' := [(1, .int 0), (0, .ref h0)]) hx hb dX1_rings_1 rfl hl (by decide) rfl (fun ls hl => ?_)
    refine lv_iconst (v := 0) hx hb dX1_rings_2 (by decide) ?_
    refine lv_istore_n (lv' := [(2, .int 0), (1, .int 0), (0, .ref h0)]) hx hb dX1_rings_3 rfl hl (by decide) rfl (fun ls hl => ?_)
    exact ht _ _ _ hP hD hS (lv_sub hl [2, 1, 0] rfl)
set_option maxHeartbeats 4000000 in
set_option maxRecDepth 100000 in
theorem c_X1_membersOf (l : Launch) (dC : Nat → ClassId) (dI : Nat → Nat → Nat) (cI cJ : ClassId) (h0 : Nat) (afbi : Nat) (afab : Nat) (afhd : Nat) (afin : Nat) (afjo : Nat) (afnu : Nat) (afre : Nat) (afse : Nat) (nv : Int32) (na : Int32) (fnu : Nat → Int32) (sz : Nat) (p1 : Int32) (post : Int32 → Prop) (hsp : S_X1_membersOf p1 nv fnu post) : Met l yX1_membersOf wsX1_membersOf ({ frames := 0, cells := 0, slots := 0, locals := 0 }) (va_Pc [.ref h0, .int p1] (fun U => U.heap.size = sz ∧ va_P (dC, dI) vwCl [(h0, .inr (1, [.int nv, .int na, .ref afbi, .ref afab, .ref afhd, .ref afin, .ref afjo, .ref afnu, .ref afre, .ref afse])), (afnu, .inl (cI, 60, .inl fnu))] U.heap ∧ va_K (dC, dI) vwCl [(cI, .int), (cJ, .long)] U ∧ va_D (fun _ => True) [(h0, .inr (1, [.int nv, .int na, .ref afbi, .ref afab, .ref afhd, .ref afin, .ref afjo, .ref afnu, .ref afre, .ref afse])), (afnu, .inl (cI, 60, .inl fnu))] ∧ nw U)) (va_Qi (fun (r : Int32) (u : Unit) => post r) (fun (u : Unit) (t : State) => va_P (dC, dI) vwCl [(h0, .inr (1, [.int nv, .int na, .ref afbi, .ref afab, .ref afhd, .ref afin, .ref afjo, .ref afnu, .ref afre, .ref afse])), (afnu, .inl (cI, 60, .inl fnu))] t.heap ∧ va_K (dC, dI) vwCl [(cI, .int), (cJ, .long)] t ∧ va_D (va_A [(h0, .inr (1, [.int nv, .int na, .ref afbi, .ref afab, .ref afhd, .ref afin, .ref afjo, .ref afnu, .ref afre, .ref afse])), (afnu, .inl (cI, 60, .inl fnu))] sz) [(h0, .inr (1, [.int nv, .int na, .ref afbi, .ref afab, .ref afhd, .ref afin, .ref afjo, .ref afnu, .ref afre, .ref afse])), (afnu, .inl (cI, 60, .inl fnu))]) (va_A [(h0, .inr (1, [.int nv, .int na, .ref afbi, .ref afab, .ref afhd, .ref afin, .ref afjo, .ref afnu, .ref afre, .ref afse])), (afnu, .inl (cI, 60, .inl fnu))] sz)) 0 0 (va_A [(h0, .inr (1, [.int nv, .int na, .ref afbi, .ref afab, .ref afhd, .ref afin, .ref afjo, .ref afnu, .ref afre, .ref afse])), (afnu, .inl (cI, 60, .inl fnu))] sz) := by
  refine Met.ofW (cc := cX1_membersOf) (maxL := 4) (ret := (some .int)) (by decide) rfl ?_
  intro p e s m args below meth c s₁ B hml hv
  obtain ⟨rfl, hsz, hP, hK, hD0, hN⟩ := hv
  have hx := B.exec
  have hb := B.bytes
  have hr := B.returns
  have hts := atoms_spec (ws := wsX1_membersOf) B.pre
  have hown : s.vm.findClass RX1 = some m.cls := findClass_of_methodNamed B.named
  have hlocks := B.notSynchronized
  subst hsz
  have hD := hD0.self (sz := s.heap.size)
  generalize hAe : va_A [(h0, .inr (1, [.int nv, .int na, .ref afbi, .ref afab, .ref afhd, .ref afin, .ref afjo, .ref afnu, .ref afre, .ref afse])), (afnu, .inl (cI, 60, .inl fnu))] s.heap.size = A at hD ⊢
  have hA : ∀ q : Nat, s.heap.size ≤ q → A q := fun q h => by rw [← hAe]; exact Or.inr h
  have hS : va_S A s.heap s.heap [] := va_S.rf
  have hl := lv_entry ([.ref h0, .int p1]) (n := 4) (Nat.le_of_ble_eq_true rfl)
  rw [lg_entry_eq]
  generalize (lg_sl ([.ref h0, .int p1]) ++ List.replicate (4 - (lg_sl ([.ref h0, .int p1])).length) Slot.unset).toArray = ls at hl ⊢
  replace hl : lv_has ls 4 [(0, .ref h0), (1, .int p1)] := hl
  have hw0 := (show ∀ w ∈ wsX10, w ∈ wsX1_membersOf from by decide +kernel)
  have hw1 := hts (.fieldLink RX1 9 "EffectNets$Net" "variables" "I") (by decide +kernel)
  have hw2 := hts (.fieldLink RX1 35 "EffectNets$Net" "numbers" "[I") (by decide +kernel)
  refine hsp _ (fun (x2 : Int32) (x3 : Int32) => ∀ (H : Heap) (locs : List Loc) (ls : Array Slot), va_P (dC, dI) vwCl [(h0, .inr (1, [.int nv, .int na, .ref afbi, .ref afab, .ref afhd, .ref afin, .ref afjo, .ref afnu, .ref afre, .ref afse])), (afnu, .inl (cI, 60, .inl fnu))] H → va_D A [(h0, .inr (1, [.int nv, .int na, .ref afbi, .ref afab, .ref afhd, .ref afin, .ref afjo, .ref afnu, .ref afre, .ref afse])), (afnu, .inl (cI, 60, .inl fnu))] → va_S A s.heap H locs → lv_has ls 4 [(0, .ref h0), (1, .int p1), (2, .int x2), (3, .int x3)] → W p l e (headSpec wsX1_membersOf ({ frames := 0, cells := 0, slots := 0, locals := 0 })).room s m (List.toArray [.ref h0, .int p1]) below meth c H locs 0 0 (MQ below (va_Qi (fun (r : Int32) (u : Unit) => post r) (fun (u : Unit) (t : State) => va_P (dC, dI) vwCl [(h0, .inr (1, [.int nv, .int na, .ref afbi, .ref afab, .ref afhd, .ref afin, .ref afjo, .ref afnu, .ref afre, .ref afse])), (afnu, .inl (cI, 60, .inl fnu))] t.heap ∧ va_K (dC, dI) vwCl [(cI, .int), (cJ, .long)] t ∧ va_D A [(h0, .inr (1, [.int nv, .int na, .ref afbi, .ref afab, .ref afhd, .ref afin, .ref afjo, .ref afnu, .ref afre, .ref afse])), (afnu, .inl (cI, 60, .inl fnu))]) A) (List.toArray [.ref h0, .int p1]) s 0 0 A) (F0 m 4 ls [])) ?_ ?_
  · intro x2 x3 ht H locs ls hP hD hS hl
    refine lv_iload_n hx hb dX1_membersOf_4 rfl (lv_at hl 3 rfl) ?_
    refine lv_aload_n hx hb dX1_membersOf_5 rfl (lv_at hl 0 rfl) ?_
    refine va_get (D := (dC, dI)) (ci := 1) (v := .int nv) (C := RX1) (T := TX1) (N := 10) hx hb hts hw0 hown hK hP 0 rfl rfl 0 (by decide) hw1 (fun _ h9 => h9) rfl dX1_membersOf_6 ?_
    refine lv_icmp_ge (tgt := 31) hx hb dX1_membersOf_9 (by decide) (fun c1 => ?_) (fun c1 => ?_)
    · replace ht := ht.1 c1
      refine lv_iload_n hx hb dX1_membersOf_31 rfl (lv_at hl 2 rfl) ?_
      have hP9 : va_P (dC, dI) vwCl [(h0, .inr (1, [.int nv, .int na, .ref afbi, .ref afab, .ref afhd, .ref afin, .ref afjo, .ref afnu, .ref afre, .ref afse])), (afnu, .inl (cI, 60, .inl fnu))] _ := hP
      have hD9 : va_D A [(h0, .inr (1, [.int nv, .int na, .ref afbi, .ref afab, .ref afhd, .ref afin, .ref afjo, .ref afnu, .ref afre, .ref afse])), (afnu, .inl (cI, 60, .inl fnu))] := hD
      exact W.iret (v := x2) hx hb hr (fun t ht9 hW => ⟨⟨x2, (), rfl, ht, by rw [ht9]; exact hP9, va_K.moved hW.alike hK, hD9⟩, hS.F ht9⟩) hS.2.2 dX1_membersOf_32
    · replace ht := ht.2 c1
      refine lv_aload_n hx hb dX1_membersOf_12 rfl (lv_at hl 0 rfl) ?_
      refine va_get (D := (dC, dI)) (ci := 1) (v := .ref afnu) (C := RX1) (T := TX1) (N := 10) hx hb hts hw0 hown hK hP 0 rfl rfl 7 (by decide) hw2 (fun _ h9 => h9) rfl dX1_membersOf_13 ?_
      refine lv_iload_n hx hb dX1_membersOf_16 rfl (lv_at hl 3 rfl) ?_
      obtain ⟨i2, ht⟩ := ht
      refine va_iald hx hb hK hP 1 0 rfl rfl i2 dX1_membersOf_17 ?_
      refine lv_iload_n hx hb dX1_membersOf_18 rfl (lv_at hl 1 rfl) ?_
      refine lv_icmp_ne (tgt := 25) hx hb dX1_membersOf_19 (by decide) (fun c3 => ?_) (fun c3 => ?_)
      · replace ht := ht.1 c3
        obtain ⟨y4, ey4⟩ : ∃ y : Int32, y = x3 + 1 := ⟨_, rfl⟩
        replace ht := ht y4 ey4
        refine lv_iinc (v := y4) (lv' := [(3, .int y4), (0, .ref h0), (1, .int p1), (2, .int x2)]) hx hb dX1_membersOf_25 hl (k := 3) rfl (by rw [ey4]; rfl) (by decide) rfl (fun ls hl => ?_)
        refine lv_goto (tgt := 4) hx hb dX1_membersOf_28 (by decide) ?_
        exact ht _ _ _ hP hD hS (lv_sub hl [1, 2, 3, 0] rfl)
      · replace ht := ht.2 c3
        obtain ⟨y5, ey5⟩ : ∃ y : Int32, y = x2 + 1 := ⟨_, rfl⟩
        replace ht := ht y5 ey5
        refine lv_iinc (v := y5) (lv' := [(2, .int y5), (0, .ref h0), (1, .int p1), (3, .int x3)]) hx hb dX1_membersOf_22 hl (k := 2) rfl (by rw [ey5]; rfl) (by decide) rfl (fun ls hl => ?_)
        obtain ⟨y6, ey6⟩ : ∃ y : Int32, y = x3 + 1 := ⟨_, rfl⟩
        replace ht := ht y6 ey6
        refine lv_iinc (v := y6) (lv' := [(3, .int y6), (2, .int y5), (0, .ref h0), (1, .int p1)]) hx hb dX1_membersOf_25 hl (k := 3) rfl (by rw [ey6]; rfl) (by decide) rfl (fun ls hl => ?_)
        refine lv_goto (tgt := 4) hx hb dX1_membersOf_28 (by decide) ?_
        exact ht _ _ _ hP hD hS (lv_sub hl [2, 3, 1, 0] rfl)
  · intro ht
    refine lv_iconst (v := 0) hx hb dX1_membersOf_0 (by decide) ?_
    refine lv_istore_n (lv' := [(2, .int 0), (0, .ref h0), (1, .int p1)]) hx hb dX1_membersOf_1 rfl hl (by decide) rfl (fun ls hl => ?_)
    refine lv_iconst (v := 0) hx hb dX1_membersOf_2 (by decide) ?_
    refine lv_istore_n (lv' := [(3, .int 0), (2, .int 0), (0, .ref h0), (1, .int p1)]) hx hb dX1_membersOf_3 rfl hl (by decide) rfl (fun ls hl => ?_)
    exact ht _ _ _ hP hD hS (lv_sub hl [2, 3, 1, 0] rfl)
set_option maxHeartbeats 4000000 in
set_option maxRecDepth 100000 in
theorem c_X1_levelOf (l : Launch) (dC : Nat → ClassId) (dI : Nat → Nat → Nat) (cI cJ : ClassId) (h0 : Nat) (afbi : Nat) (afab : Nat) (afhd : Nat) (afin : Nat) (afjo : Nat) (afnu : Nat) (afre : Nat) (afse : Nat) (nv : Int32) (na : Int32) (fbi : Nat → Int32) (fre : Nat → Int64) (sz : Nat) (p1 : Int32) (post : Int32 → Prop) (hsp : S_X1_levelOf p1 nv fbi fre post) : Met l yX1_levelOf wsX1_levelOf ({ frames := 1, cells := 0, slots := 0, locals := 22 }) (va_Pc [.ref h0, .int p1] (fun U => U.heap.size = sz ∧ va_P (dC, dI) vwCl [(h0, .inr (1, [.int nv, .int na, .ref afbi, .ref afab, .ref afhd, .ref afin, .ref afjo, .ref afnu, .ref afre, .ref afse])), (afbi, .inl (cI, 60, .inl fbi)), (afre, .inl (cJ, 60, .inr (.inl fre)))] U.heap ∧ va_K (dC, dI) vwCl [(cI, .int), (cJ, .long)] U ∧ va_D (fun _ => True) [(h0, .inr (1, [.int nv, .int na, .ref afbi, .ref afab, .ref afhd, .ref afin, .ref afjo, .ref afnu, .ref afre, .ref afse])), (afbi, .inl (cI, 60, .inl fbi)), (afre, .inl (cJ, 60, .inr (.inl fre)))] ∧ nw U)) (va_Qi (fun (r : Int32) (u : Unit) => post r) (fun (u : Unit) (t : State) => va_P (dC, dI) vwCl [(h0, .inr (1, [.int nv, .int na, .ref afbi, .ref afab, .ref afhd, .ref afin, .ref afjo, .ref afnu, .ref afre, .ref afse])), (afbi, .inl (cI, 60, .inl fbi)), (afre, .inl (cJ, 60, .inr (.inl fre)))] t.heap ∧ va_K (dC, dI) vwCl [(cI, .int), (cJ, .long)] t ∧ va_D (va_A [(h0, .inr (1, [.int nv, .int na, .ref afbi, .ref afab, .ref afhd, .ref afin, .ref afjo, .ref afnu, .ref afre, .ref afse])), (afbi, .inl (cI, 60, .inl fbi)), (afre, .inl (cJ, 60, .inr (.inl fre)))] sz) [(h0, .inr (1, [.int nv, .int na, .ref afbi, .ref afab, .ref afhd, .ref afin, .ref afjo, .ref afnu, .ref afre, .ref afse])), (afbi, .inl (cI, 60, .inl fbi)), (afre, .inl (cJ, 60, .inr (.inl fre)))]) (va_A [(h0, .inr (1, [.int nv, .int na, .ref afbi, .ref afab, .ref afhd, .ref afin, .ref afjo, .ref afnu, .ref afre, .ref afse])), (afbi, .inl (cI, 60, .inl fbi)), (afre, .inl (cJ, 60, .inr (.inl fre)))] sz)) 0 0 (va_A [(h0, .inr (1, [.int nv, .int na, .ref afbi, .ref afab, .ref afhd, .ref afin, .ref afjo, .ref afnu, .ref afre, .ref afse])), (afbi, .inl (cI, 60, .inl fbi)), (afre, .inl (cJ, 60, .inr (.inl fre)))] sz) := by
  refine Met.ofW (cc := cX1_levelOf) (maxL := 4) (ret := (some .int)) (by decide) rfl ?_
  intro p e s m args below meth c s₁ B hml hv
  obtain ⟨rfl, hsz, hP, hK, hD0, hN⟩ := hv
  have hx := B.exec
  have hb := B.bytes
  have hr := B.returns
  have hts := atoms_spec (ws := wsX1_levelOf) B.pre
  have hown : s.vm.findClass RX1 = some m.cls := findClass_of_methodNamed B.named
  have hlocks := B.notSynchronized
  subst hsz
  have hD := hD0.self (sz := s.heap.size)
  generalize hAe : va_A [(h0, .inr (1, [.int nv, .int na, .ref afbi, .ref afab, .ref afhd, .ref afin, .ref afjo, .ref afnu, .ref afre, .ref afse])), (afbi, .inl (cI, 60, .inl fbi)), (afre, .inl (cJ, 60, .inr (.inl fre)))] s.heap.size = A at hD ⊢
  have hA : ∀ q : Nat, s.heap.size ≤ q → A q := fun q h => by rw [← hAe]; exact Or.inr h
  have hS : va_S A s.heap s.heap [] := va_S.rf
  have hl := lv_entry ([.ref h0, .int p1]) (n := 4) (Nat.le_of_ble_eq_true rfl)
  rw [lg_entry_eq]
  generalize (lg_sl ([.ref h0, .int p1]) ++ List.replicate (4 - (lg_sl ([.ref h0, .int p1])).length) Slot.unset).toArray = ls at hl ⊢
  replace hl : lv_has ls 4 [(0, .ref h0), (1, .int p1)] := hl
  have hw0 := (show ∀ w ∈ wsX10, w ∈ wsX1_levelOf from by decide +kernel)
  have hw1 := hts (.fieldLink RX1 9 "EffectNets$Net" "variables" "I") (by decide +kernel)
  have hw2 := hts (.fieldLink RX1 38 "EffectNets$Net" "reached" "[J") (by decide +kernel)
  have hw3 := hts (.initialized RX3) (by decide +kernel)
  have hw4 := hts (.static yX3_contains) (by decide +kernel)
  have hw5 := hts (.fieldLink RX1 18 "EffectNets$Net" "births" "[I") (by decide +kernel)
  have hw6 := hts (.methodLink RX1 66 Lib.Math.min.name) (by decide +kernel)
  have hw7 := hts (.static Lib.Math.min.name) (by decide +kernel)
  have hw8 := hts (.initialized "java/lang/Math") (by decide +kernel)
  have hw9 := hts (.code Lib.Math.min.name Lib.Math.min.code 2 (some .int)) (by decide +kernel)
  refine hsp _ (fun (x2 : Int32) (x3 : Int32) => ∀ (H : Heap) (locs : List Loc) (ls : Array Slot), va_P (dC, dI) vwCl [(h0, .inr (1, [.int nv, .int na, .ref afbi, .ref afab, .ref afhd, .ref afin, .ref afjo, .ref afnu, .ref afre, .ref afse])), (afbi, .inl (cI, 60, .inl fbi)), (afre, .inl (cJ, 60, .inr (.inl fre)))] H → va_D A [(h0, .inr (1, [.int nv, .int na, .ref afbi, .ref afab, .ref afhd, .ref afin, .ref afjo, .ref afnu, .ref afre, .ref afse])), (afbi, .inl (cI, 60, .inl fbi)), (afre, .inl (cJ, 60, .inr (.inl fre)))] → va_S A s.heap H locs → lv_has ls 4 [(0, .ref h0), (1, .int p1), (2, .int x2), (3, .int x3)] → W p l e (headSpec wsX1_levelOf ({ frames := 1, cells := 0, slots := 0, locals := 22 })).room s m (List.toArray [.ref h0, .int p1]) below meth c H locs 0 0 (MQ below (va_Qi (fun (r : Int32) (u : Unit) => post r) (fun (u : Unit) (t : State) => va_P (dC, dI) vwCl [(h0, .inr (1, [.int nv, .int na, .ref afbi, .ref afab, .ref afhd, .ref afin, .ref afjo, .ref afnu, .ref afre, .ref afse])), (afbi, .inl (cI, 60, .inl fbi)), (afre, .inl (cJ, 60, .inr (.inl fre)))] t.heap ∧ va_K (dC, dI) vwCl [(cI, .int), (cJ, .long)] t ∧ va_D A [(h0, .inr (1, [.int nv, .int na, .ref afbi, .ref afab, .ref afhd, .ref afin, .ref afjo, .ref afnu, .ref afre, .ref afse])), (afbi, .inl (cI, 60, .inl fbi)), (afre, .inl (cJ, 60, .inr (.inl fre)))]) A) (List.toArray [.ref h0, .int p1]) s 0 0 A) (F0 m 9 ls [])) ?_ ?_
  · intro x2 x3 ht H locs ls hP hD hS hl
    refine lv_iload_n hx hb dX1_levelOf_9 rfl (lv_at hl 3 rfl) ?_
    refine lv_aload_n hx hb dX1_levelOf_10 rfl (lv_at hl 0 rfl) ?_
    refine va_get (D := (dC, dI)) (ci := 1) (v := .int nv) (C := RX1) (T := TX1) (N := 10) hx hb hts hw0 hown hK hP 0 rfl rfl 0 (by decide) hw1 (fun _ h9 => h9) rfl dX1_levelOf_11 ?_
    refine lv_icmp_ge (tgt := 47) hx hb dX1_levelOf_14 (by decide) (fun c1 => ?_) (fun c1 => ?_)
    · replace ht := ht.1 c1
      refine lv_iload_n hx hb dX1_levelOf_47 rfl (lv_at hl 2 rfl) ?_
      have hP9 : va_P (dC, dI) vwCl [(h0, .inr (1, [.int nv, .int na, .ref afbi, .ref afab, .ref afhd, .ref afin, .ref afjo, .ref afnu, .ref afre, .ref afse])), (afbi, .inl (cI, 60, .inl fbi)), (afre, .inl (cJ, 60, .inr (.inl fre)))] _ := hP
      have hD9 : va_D A [(h0, .inr (1, [.int nv, .int na, .ref afbi, .ref afab, .ref afhd, .ref afin, .ref afjo, .ref afnu, .ref afre, .ref afse])), (afbi, .inl (cI, 60, .inl fbi)), (afre, .inl (cJ, 60, .inr (.inl fre)))] := hD
      exact W.iret (v := x2) hx hb hr (fun t ht9 hW => ⟨⟨x2, (), rfl, ht, by rw [ht9]; exact hP9, va_K.moved hW.alike hK, hD9⟩, hS.F ht9⟩) hS.2.2 dX1_levelOf_48
    · replace ht := ht.2 c1
      refine lv_aload_n hx hb dX1_levelOf_17 rfl (lv_at hl 0 rfl) ?_
      refine va_get (D := (dC, dI)) (ci := 1) (v := .ref afre) (C := RX1) (T := TX1) (N := 10) hx hb hts hw0 hown hK hP 0 rfl rfl 8 (by decide) hw2 (fun _ h9 => h9) rfl dX1_levelOf_18 ?_
      refine lv_iload_n hx hb dX1_levelOf_21 rfl (lv_at hl 3 rfl) ?_
      obtain ⟨i2, ht⟩ := ht
      refine va_lald hx hb hK hP 2 1 rfl rfl i2 dX1_levelOf_22 ?_
      refine lv_iload_n hx hb dX1_levelOf_23 rfl (lv_at hl 1 rfl) ?_
      have hPc := hP.sub (ws' := []) [] rfl
      have hDc := hD.sub (ws' := []) [] (by decide) rfl
      have hFc := va_free (wc := []) hD hS hA [] rfl
      refine va_calli (va_runSN (As := [.long (fre x3.toNatClampNeg), .int p1]) (rest := []) ⟨hx, hb, hml, hown, hts⟩ (c_X3_contains l dC dI cI cJ  H.size (fre x3.toNatClampNeg) p1 _ ht) ⟨va_cnB 2 hts gX1_levelOf_X3_contains_n71 rfl rfl rfl hN.2.2.2.2.1 hw3 (by decide +kernel) ⟨Nat.le_of_ble_eq_true rfl, Nat.le_of_ble_eq_true rfl⟩, hw4, trivial⟩ ⟨fun a U g mk q => by obtain ⟨q0, q1, qP, qK, qD, qN⟩ := q; exact ⟨q0, q1, qP, va_K.moved (u := U) (U := U.calling g mk a) (Vm.Alike.refl U.vm) qK, qD, nw_same rfl qN⟩, fun U hU hW => ⟨rfl, by rw [hU], by rw [hU]; exact hPc, va_K.moved hW.alike hK, hDc.weaken (fun _ _ _ _ => trivial), nw_warm hW hN⟩⟩ rfl rfl hl.1 rfl (lv_room (Nat.le_of_ble_eq_true rfl)) dX1_levelOf_24 ⟨Nat.le_of_ble_eq_true rfl, Nat.le_of_ble_eq_true rfl⟩) hS (fun q _ h => hFc q h) hFc (fun r3 u t H1 locs ht9 hvm hw hB hz1 hk1 hS => ?_)
      obtain ⟨hP1, hK1, hD1⟩ := hB
      rw [ht9] at hP1
      try dsimp only at hw
      replace ht := hw
      obtain ⟨hP, hD⟩ := va_join (wr := [(h0, .inr (1, [.int nv, .int na, .ref afbi, .ref afab, .ref afhd, .ref afin, .ref afjo, .ref afnu, .ref afre, .ref afse])), (afbi, .inl (cI, 60, .inl fbi)), (afre, .inl (cJ, 60, .inr (.inl fre)))]) (w1 := []) hP hD [] [0, 1, 2] rfl rfl (by decide) (by decide) hk1 hFc hP1 hD1
      generalize H1 = H at hP hS ⊢
      replace hP : va_P (dC, dI) vwCl [(h0, .inr (1, [.int nv, .int na, .ref afbi, .ref afab, .ref afhd, .ref afin, .ref afjo, .ref afnu, .ref afre, .ref afse])), (afbi, .inl (cI, 60, .inl fbi)), (afre, .inl (cJ, 60, .inr (.inl fre)))] H := hP
      replace hD : va_D A [(h0, .inr (1, [.int nv, .int na, .ref afbi, .ref afab, .ref afhd, .ref afin, .ref afjo, .ref afnu, .ref afre, .ref afse])), (afbi, .inl (cI, 60, .inl fbi)), (afre, .inl (cJ, 60, .inr (.inl fre)))] := hD
      refine lv_if_eq (tgt := 41) hx hb dX1_levelOf_27 (by decide) (fun c4 => ?_) (fun c4 => ?_)
      · replace ht := ht.1 c4
        obtain ⟨y5, ey5⟩ : ∃ y : Int32, y = x3 + 1 := ⟨_, rfl⟩
        replace ht := ht y5 ey5
        refine lv_iinc (v := y5) (lv' := [(3, .int y5), (0, .ref h0), (1, .int p1), (2, .int x2)]) hx hb dX1_levelOf_41 hl (k := 3) rfl (by rw [ey5]; rfl) (by decide) rfl (fun ls hl => ?_)
        refine lv_goto (tgt := 9) hx hb dX1_levelOf_44 (by decide) ?_
        exact ht _ _ _ hP hD hS (lv_sub hl [1, 2, 3, 0] rfl)
      · replace ht := ht.2 c4
        refine lv_iload_n hx hb dX1_levelOf_30 rfl (lv_at hl 2 rfl) ?_
        refine lv_aload_n hx hb dX1_levelOf_31 rfl (lv_at hl 0 rfl) ?_
        refine va_get (D := (dC, dI)) (ci := 1) (v := .ref afbi) (C := RX1) (T := TX1) (N := 10) hx hb hts hw0 hown hK hP 0 rfl rfl 2 (by decide) hw5 (fun _ h9 => h9) rfl dX1_levelOf_32 ?_
        refine lv_iload_n hx hb dX1_levelOf_35 rfl (lv_at hl 3 rfl) ?_
        refine va_iald hx hb hK hP 1 0 rfl rfl i2 dX1_levelOf_36 ?_
        refine va_mmin hx hb (hml.trans hl.1.symm) hown hw6 hw7 hw8 hw9 (Nat.le_of_ble_eq_true rfl) (Nat.le_of_ble_eq_true rfl) (Nat.zero_le _) (Nat.zero_le _) dX1_levelOf_37 ?_
        refine lv_topi (fun y6 ey6 => ?_)
        replace ht := ht y6 ey6
        refine lv_istore_n (lv' := [(2, .int y6), (0, .ref h0), (1, .int p1), (3, .int x3)]) hx hb dX1_levelOf_40 rfl hl (by decide) rfl (fun ls hl => ?_)
        obtain ⟨y7, ey7⟩ : ∃ y : Int32, y = x3 + 1 := ⟨_, rfl⟩
        replace ht := ht y7 ey7
        refine lv_iinc (v := y7) (lv' := [(3, .int y7), (2, .int y6), (0, .ref h0), (1, .int p1)]) hx hb dX1_levelOf_41 hl (k := 3) rfl (by rw [ey7]; rfl) (by decide) rfl (fun ls hl => ?_)
        refine lv_goto (tgt := 9) hx hb dX1_levelOf_44 (by decide) ?_
        exact ht _ _ _ hP hD hS (lv_sub hl [2, 3, 1, 0] rfl)
  · intro ht
    refine lv_aload_n hx hb dX1_levelOf_0 rfl (lv_at hl 0 rfl) ?_
    refine va_get (D := (dC, dI)) (ci := 1) (v := .ref afbi) (C := RX1) (T := TX1) (N := 10) hx hb hts hw0 hown hK hP 0 rfl rfl 2 (by decide) hw5 (fun _ h9 => h9) rfl dX1_levelOf_1 ?_
    refine lv_iload_n hx hb dX1_levelOf_4 rfl (lv_at hl 1 rfl) ?_
    obtain ⟨i8, ht⟩ := ht
    refine va_iald hx hb hK hP 1 0 rfl rfl i8 dX1_levelOf_5 ?_
    refine lv_topi (fun y9 ey9 => ?_)
    replace ht := ht y9 ey9
    refine lv_istore_n (lv' := [(2, .int y9), (0, .ref h0), (1, .int p1)]) hx hb dX1_levelOf_6 rfl hl (by decide) rfl (fun ls hl => ?_)
    refine lv_iconst (v := 0) hx hb dX1_levelOf_7 (by decide) ?_
    refine lv_istore_n (lv' := [(3, .int 0), (2, .int y9), (0, .ref h0), (1, .int p1)]) hx hb dX1_levelOf_8 rfl hl (by decide) rfl (fun ls hl => ?_)
    exact ht _ _ _ hP hD hS (lv_sub hl [2, 3, 1, 0] rfl)
set_option maxHeartbeats 4000000 in
set_option maxRecDepth 100000 in
theorem c_X1_levelOfAtom (l : Launch) (dC : Nat → ClassId) (dI : Nat → Nat → Nat) (cI cJ : ClassId) (h0 : Nat) (afbi : Nat) (afab : Nat) (afhd : Nat) (afin : Nat) (afjo : Nat) (afnu : Nat) (afre : Nat) (afse : Nat) (nv : Int32) (na : Int32) (fbi : Nat → Int32) (fab : Nat → Int32) (fse : Nat → Int32) (sz : Nat) (p1 : Int32) (post : Int32 → Prop) (hsp : S_X1_levelOfAtom p1 nv fbi fab fse post) : Met l yX1_levelOfAtom wsX1_levelOfAtom ({ frames := 1, cells := 0, slots := 0, locals := 21 }) (va_Pc [.ref h0, .int p1] (fun U => U.heap.size = sz ∧ va_P (dC, dI) vwCl [(h0, .inr (1, [.int nv, .int na, .ref afbi, .ref afab, .ref afhd, .ref afin, .ref afjo, .ref afnu, .ref afre, .ref afse])), (afbi, .inl (cI, 60, .inl fbi)), (afab, .inl (cI, 32, .inl fab)), (afse, .inl (cI, 60, .inl fse))] U.heap ∧ va_K (dC, dI) vwCl [(cI, .int), (cJ, .long)] U ∧ va_D (fun _ => True) [(h0, .inr (1, [.int nv, .int na, .ref afbi, .ref afab, .ref afhd, .ref afin, .ref afjo, .ref afnu, .ref afre, .ref afse])), (afbi, .inl (cI, 60, .inl fbi)), (afab, .inl (cI, 32, .inl fab)), (afse, .inl (cI, 60, .inl fse))] ∧ nw U)) (va_Qi (fun (r : Int32) (u : Unit) => post r) (fun (u : Unit) (t : State) => va_P (dC, dI) vwCl [(h0, .inr (1, [.int nv, .int na, .ref afbi, .ref afab, .ref afhd, .ref afin, .ref afjo, .ref afnu, .ref afre, .ref afse])), (afbi, .inl (cI, 60, .inl fbi)), (afab, .inl (cI, 32, .inl fab)), (afse, .inl (cI, 60, .inl fse))] t.heap ∧ va_K (dC, dI) vwCl [(cI, .int), (cJ, .long)] t ∧ va_D (va_A [(h0, .inr (1, [.int nv, .int na, .ref afbi, .ref afab, .ref afhd, .ref afin, .ref afjo, .ref afnu, .ref afre, .ref afse])), (afbi, .inl (cI, 60, .inl fbi)), (afab, .inl (cI, 32, .inl fab)), (afse, .inl (cI, 60, .inl fse))] sz) [(h0, .inr (1, [.int nv, .int na, .ref afbi, .ref afab, .ref afhd, .ref afin, .ref afjo, .ref afnu, .ref afre, .ref afse])), (afbi, .inl (cI, 60, .inl fbi)), (afab, .inl (cI, 32, .inl fab)), (afse, .inl (cI, 60, .inl fse))]) (va_A [(h0, .inr (1, [.int nv, .int na, .ref afbi, .ref afab, .ref afhd, .ref afin, .ref afjo, .ref afnu, .ref afre, .ref afse])), (afbi, .inl (cI, 60, .inl fbi)), (afab, .inl (cI, 32, .inl fab)), (afse, .inl (cI, 60, .inl fse))] sz)) 0 0 (va_A [(h0, .inr (1, [.int nv, .int na, .ref afbi, .ref afab, .ref afhd, .ref afin, .ref afjo, .ref afnu, .ref afre, .ref afse])), (afbi, .inl (cI, 60, .inl fbi)), (afab, .inl (cI, 32, .inl fab)), (afse, .inl (cI, 60, .inl fse))] sz) := by
  refine Met.ofW (cc := cX1_levelOfAtom) (maxL := 4) (ret := (some .int)) (by decide) rfl ?_
  intro p e s m args below meth c s₁ B hml hv
  obtain ⟨rfl, hsz, hP, hK, hD0, hN⟩ := hv
  have hx := B.exec
  have hb := B.bytes
  have hr := B.returns
  have hts := atoms_spec (ws := wsX1_levelOfAtom) B.pre
  have hown : s.vm.findClass RX1 = some m.cls := findClass_of_methodNamed B.named
  have hlocks := B.notSynchronized
  subst hsz
  have hD := hD0.self (sz := s.heap.size)
  generalize hAe : va_A [(h0, .inr (1, [.int nv, .int na, .ref afbi, .ref afab, .ref afhd, .ref afin, .ref afjo, .ref afnu, .ref afre, .ref afse])), (afbi, .inl (cI, 60, .inl fbi)), (afab, .inl (cI, 32, .inl fab)), (afse, .inl (cI, 60, .inl fse))] s.heap.size = A at hD ⊢
  have hA : ∀ q : Nat, s.heap.size ≤ q → A q := fun q h => by rw [← hAe]; exact Or.inr h
  have hS : va_S A s.heap s.heap [] := va_S.rf
  have hl := lv_entry ([.ref h0, .int p1]) (n := 4) (Nat.le_of_ble_eq_true rfl)
  rw [lg_entry_eq]
  generalize (lg_sl ([.ref h0, .int p1]) ++ List.replicate (4 - (lg_sl ([.ref h0, .int p1])).length) Slot.unset).toArray = ls at hl ⊢
  replace hl : lv_has ls 4 [(0, .ref h0), (1, .int p1)] := hl
  have hw0 := (show ∀ w ∈ wsX10, w ∈ wsX1_levelOfAtom from by decide +kernel)
  have hw1 := hts (.fieldLink RX1 9 "EffectNets$Net" "variables" "I") (by decide +kernel)
  have hw2 := hts (.fieldLink RX1 41 "EffectNets$Net" "sets" "[I") (by decide +kernel)
  have hw3 := hts (.initialized RX3) (by decide +kernel)
  have hw4 := hts (.static yX3_containsAtom) (by decide +kernel)
  have hw5 := hts (.fieldLink RX1 18 "EffectNets$Net" "births" "[I") (by decide +kernel)
  have hw6 := hts (.methodLink RX1 66 Lib.Math.min.name) (by decide +kernel)
  have hw7 := hts (.static Lib.Math.min.name) (by decide +kernel)
  have hw8 := hts (.initialized "java/lang/Math") (by decide +kernel)
  have hw9 := hts (.code Lib.Math.min.name Lib.Math.min.code 2 (some .int)) (by decide +kernel)
  have hw10 := hts (.fieldLink RX1 22 "EffectNets$Net" "atomBirths" "[I") (by decide +kernel)
  refine hsp _ (fun (x2 : Int32) (x3 : Int32) => ∀ (H : Heap) (locs : List Loc) (ls : Array Slot), va_P (dC, dI) vwCl [(h0, .inr (1, [.int nv, .int na, .ref afbi, .ref afab, .ref afhd, .ref afin, .ref afjo, .ref afnu, .ref afre, .ref afse])), (afbi, .inl (cI, 60, .inl fbi)), (afab, .inl (cI, 32, .inl fab)), (afse, .inl (cI, 60, .inl fse))] H → va_D A [(h0, .inr (1, [.int nv, .int na, .ref afbi, .ref afab, .ref afhd, .ref afin, .ref afjo, .ref afnu, .ref afre, .ref afse])), (afbi, .inl (cI, 60, .inl fbi)), (afab, .inl (cI, 32, .inl fab)), (afse, .inl (cI, 60, .inl fse))] → va_S A s.heap H locs → lv_has ls 4 [(0, .ref h0), (1, .int p1), (2, .int x2), (3, .int x3)] → W p l e (headSpec wsX1_levelOfAtom ({ frames := 1, cells := 0, slots := 0, locals := 21 })).room s m (List.toArray [.ref h0, .int p1]) below meth c H locs 0 0 (MQ below (va_Qi (fun (r : Int32) (u : Unit) => post r) (fun (u : Unit) (t : State) => va_P (dC, dI) vwCl [(h0, .inr (1, [.int nv, .int na, .ref afbi, .ref afab, .ref afhd, .ref afin, .ref afjo, .ref afnu, .ref afre, .ref afse])), (afbi, .inl (cI, 60, .inl fbi)), (afab, .inl (cI, 32, .inl fab)), (afse, .inl (cI, 60, .inl fse))] t.heap ∧ va_K (dC, dI) vwCl [(cI, .int), (cJ, .long)] t ∧ va_D A [(h0, .inr (1, [.int nv, .int na, .ref afbi, .ref afab, .ref afhd, .ref afin, .ref afjo, .ref afnu, .ref afre, .ref afse])), (afbi, .inl (cI, 60, .inl fbi)), (afab, .inl (cI, 32, .inl fab)), (afse, .inl (cI, 60, .inl fse))]) A) (List.toArray [.ref h0, .int p1]) s 0 0 A) (F0 m 9 ls [])) ?_ ?_
  · intro x2 x3 ht H locs ls hP hD hS hl
    refine lv_iload_n hx hb dX1_levelOfAtom_9 rfl (lv_at hl 3 rfl) ?_
    refine lv_aload_n hx hb dX1_levelOfAtom_10 rfl (lv_at hl 0 rfl) ?_
    refine va_get (D := (dC, dI)) (ci := 1) (v := .int nv) (C := RX1) (T := TX1) (N := 10) hx hb hts hw0 hown hK hP 0 rfl rfl 0 (by decide) hw1 (fun _ h9 => h9) rfl dX1_levelOfAtom_11 ?_
    refine lv_icmp_ge (tgt := 47) hx hb dX1_levelOfAtom_14 (by decide) (fun c1 => ?_) (fun c1 => ?_)
    · replace ht := ht.1 c1
      refine lv_iload_n hx hb dX1_levelOfAtom_47 rfl (lv_at hl 2 rfl) ?_
      have hP9 : va_P (dC, dI) vwCl [(h0, .inr (1, [.int nv, .int na, .ref afbi, .ref afab, .ref afhd, .ref afin, .ref afjo, .ref afnu, .ref afre, .ref afse])), (afbi, .inl (cI, 60, .inl fbi)), (afab, .inl (cI, 32, .inl fab)), (afse, .inl (cI, 60, .inl fse))] _ := hP
      have hD9 : va_D A [(h0, .inr (1, [.int nv, .int na, .ref afbi, .ref afab, .ref afhd, .ref afin, .ref afjo, .ref afnu, .ref afre, .ref afse])), (afbi, .inl (cI, 60, .inl fbi)), (afab, .inl (cI, 32, .inl fab)), (afse, .inl (cI, 60, .inl fse))] := hD
      exact W.iret (v := x2) hx hb hr (fun t ht9 hW => ⟨⟨x2, (), rfl, ht, by rw [ht9]; exact hP9, va_K.moved hW.alike hK, hD9⟩, hS.F ht9⟩) hS.2.2 dX1_levelOfAtom_48
    · replace ht := ht.2 c1
      refine lv_aload_n hx hb dX1_levelOfAtom_17 rfl (lv_at hl 0 rfl) ?_
      refine va_get (D := (dC, dI)) (ci := 1) (v := .ref afse) (C := RX1) (T := TX1) (N := 10) hx hb hts hw0 hown hK hP 0 rfl rfl 9 (by decide) hw2 (fun _ h9 => h9) rfl dX1_levelOfAtom_18 ?_
      refine lv_iload_n hx hb dX1_levelOfAtom_21 rfl (lv_at hl 3 rfl) ?_
      obtain ⟨i2, ht⟩ := ht
      refine va_iald hx hb hK hP 3 0 rfl rfl i2 dX1_levelOfAtom_22 ?_
      refine lv_iload_n hx hb dX1_levelOfAtom_23 rfl (lv_at hl 1 rfl) ?_
      have hPc := hP.sub (ws' := []) [] rfl
      have hDc := hD.sub (ws' := []) [] (by decide) rfl
      have hFc := va_free (wc := []) hD hS hA [] rfl
      refine va_calli (va_runSN (As := [.int (fse x3.toNatClampNeg), .int p1]) (rest := []) ⟨hx, hb, hml, hown, hts⟩ (c_X3_containsAtom l dC dI cI cJ  H.size (fse x3.toNatClampNeg) p1 _ ht) ⟨va_cnB 2 hts gX1_levelOfAtom_X3_containsAtom_n94 rfl rfl rfl hN.2.2.2.2.2.1 hw3 (by decide +kernel) ⟨Nat.le_of_ble_eq_true rfl, Nat.le_of_ble_eq_true rfl⟩, hw4, trivial⟩ ⟨fun a U g mk q => by obtain ⟨q0, q1, qP, qK, qD, qN⟩ := q; exact ⟨q0, q1, qP, va_K.moved (u := U) (U := U.calling g mk a) (Vm.Alike.refl U.vm) qK, qD, nw_same rfl qN⟩, fun U hU hW => ⟨rfl, by rw [hU], by rw [hU]; exact hPc, va_K.moved hW.alike hK, hDc.weaken (fun _ _ _ _ => trivial), nw_warm hW hN⟩⟩ rfl rfl hl.1 rfl (lv_room (Nat.le_of_ble_eq_true rfl)) dX1_levelOfAtom_24 ⟨Nat.le_of_ble_eq_true rfl, Nat.le_of_ble_eq_true rfl⟩) hS (fun q _ h => hFc q h) hFc (fun r3 u t H1 locs ht9 hvm hw hB hz1 hk1 hS => ?_)
      obtain ⟨hP1, hK1, hD1⟩ := hB
      rw [ht9] at hP1
      try dsimp only at hw
      replace ht := hw
      obtain ⟨hP, hD⟩ := va_join (wr := [(h0, .inr (1, [.int nv, .int na, .ref afbi, .ref afab, .ref afhd, .ref afin, .ref afjo, .ref afnu, .ref afre, .ref afse])), (afbi, .inl (cI, 60, .inl fbi)), (afab, .inl (cI, 32, .inl fab)), (afse, .inl (cI, 60, .inl fse))]) (w1 := []) hP hD [] [0, 1, 2, 3] rfl rfl (by decide) (by decide) hk1 hFc hP1 hD1
      generalize H1 = H at hP hS ⊢
      replace hP : va_P (dC, dI) vwCl [(h0, .inr (1, [.int nv, .int na, .ref afbi, .ref afab, .ref afhd, .ref afin, .ref afjo, .ref afnu, .ref afre, .ref afse])), (afbi, .inl (cI, 60, .inl fbi)), (afab, .inl (cI, 32, .inl fab)), (afse, .inl (cI, 60, .inl fse))] H := hP
      replace hD : va_D A [(h0, .inr (1, [.int nv, .int na, .ref afbi, .ref afab, .ref afhd, .ref afin, .ref afjo, .ref afnu, .ref afre, .ref afse])), (afbi, .inl (cI, 60, .inl fbi)), (afab, .inl (cI, 32, .inl fab)), (afse, .inl (cI, 60, .inl fse))] := hD
      refine lv_if_eq (tgt := 41) hx hb dX1_levelOfAtom_27 (by decide) (fun c4 => ?_) (fun c4 => ?_)
      · replace ht := ht.1 c4
        obtain ⟨y5, ey5⟩ : ∃ y : Int32, y = x3 + 1 := ⟨_, rfl⟩
        replace ht := ht y5 ey5
        refine lv_iinc (v := y5) (lv' := [(3, .int y5), (0, .ref h0), (1, .int p1), (2, .int x2)]) hx hb dX1_levelOfAtom_41 hl (k := 3) rfl (by rw [ey5]; rfl) (by decide) rfl (fun ls hl => ?_)
        refine lv_goto (tgt := 9) hx hb dX1_levelOfAtom_44 (by decide) ?_
        exact ht _ _ _ hP hD hS (lv_sub hl [1, 2, 3, 0] rfl)
      · replace ht := ht.2 c4
        refine lv_iload_n hx hb dX1_levelOfAtom_30 rfl (lv_at hl 2 rfl) ?_
        refine lv_aload_n hx hb dX1_levelOfAtom_31 rfl (lv_at hl 0 rfl) ?_
        refine va_get (D := (dC, dI)) (ci := 1) (v := .ref afbi) (C := RX1) (T := TX1) (N := 10) hx hb hts hw0 hown hK hP 0 rfl rfl 2 (by decide) hw5 (fun _ h9 => h9) rfl dX1_levelOfAtom_32 ?_
        refine lv_iload_n hx hb dX1_levelOfAtom_35 rfl (lv_at hl 3 rfl) ?_
        refine va_iald hx hb hK hP 1 0 rfl rfl i2 dX1_levelOfAtom_36 ?_
        refine va_mmin hx hb (hml.trans hl.1.symm) hown hw6 hw7 hw8 hw9 (Nat.le_of_ble_eq_true rfl) (Nat.le_of_ble_eq_true rfl) (Nat.zero_le _) (Nat.zero_le _) dX1_levelOfAtom_37 ?_
        refine lv_topi (fun y6 ey6 => ?_)
        replace ht := ht y6 ey6
        refine lv_istore_n (lv' := [(2, .int y6), (0, .ref h0), (1, .int p1), (3, .int x3)]) hx hb dX1_levelOfAtom_40 rfl hl (by decide) rfl (fun ls hl => ?_)
        obtain ⟨y7, ey7⟩ : ∃ y : Int32, y = x3 + 1 := ⟨_, rfl⟩
        replace ht := ht y7 ey7
        refine lv_iinc (v := y7) (lv' := [(3, .int y7), (2, .int y6), (0, .ref h0), (1, .int p1)]) hx hb dX1_levelOfAtom_41 hl (k := 3) rfl (by rw [ey7]; rfl) (by decide) rfl (fun ls hl => ?_)
        refine lv_goto (tgt := 9) hx hb dX1_levelOfAtom_44 (by decide) ?_
        exact ht _ _ _ hP hD hS (lv_sub hl [2, 3, 1, 0] rfl)
  · intro ht
    refine lv_aload_n hx hb dX1_levelOfAtom_0 rfl (lv_at hl 0 rfl) ?_
    refine va_get (D := (dC, dI)) (ci := 1) (v := .ref afab) (C := RX1) (T := TX1) (N := 10) hx hb hts hw0 hown hK hP 0 rfl rfl 3 (by decide) hw10 (fun _ h9 => h9) rfl dX1_levelOfAtom_1 ?_
    refine lv_iload_n hx hb dX1_levelOfAtom_4 rfl (lv_at hl 1 rfl) ?_
    obtain ⟨i8, ht⟩ := ht
    refine va_iald hx hb hK hP 2 0 rfl rfl i8 dX1_levelOfAtom_5 ?_
    refine lv_topi (fun y9 ey9 => ?_)
    replace ht := ht y9 ey9
    refine lv_istore_n (lv' := [(2, .int y9), (0, .ref h0), (1, .int p1)]) hx hb dX1_levelOfAtom_6 rfl hl (by decide) rfl (fun ls hl => ?_)
    refine lv_iconst (v := 0) hx hb dX1_levelOfAtom_7 (by decide) ?_
    refine lv_istore_n (lv' := [(3, .int 0), (2, .int y9), (0, .ref h0), (1, .int p1)]) hx hb dX1_levelOfAtom_8 rfl hl (by decide) rfl (fun ls hl => ?_)
    exact ht _ _ _ hP hD hS (lv_sub hl [2, 3, 1, 0] rfl)
set_option maxHeartbeats 4000000 in
set_option maxRecDepth 100000 in
theorem c_X1_setsWith (l : Launch) (dC : Nat → ClassId) (dI : Nat → Nat → Nat) (cI cJ : ClassId) (h0 : Nat) (afbi : Nat) (afab : Nat) (afhd : Nat) (afin : Nat) (afjo : Nat) (afnu : Nat) (afre : Nat) (afse : Nat) (nv : Int32) (na : Int32) (fse : Nat → Int32) (sz : Nat) (p1 : Int32) (post : Int32 → Prop) (hsp : S_X1_setsWith p1 nv fse post) : Met l yX1_setsWith wsX1_setsWith ({ frames := 1, cells := 0, slots := 0, locals := 21 }) (va_Pc [.ref h0, .int p1] (fun U => U.heap.size = sz ∧ va_P (dC, dI) vwCl [(h0, .inr (1, [.int nv, .int na, .ref afbi, .ref afab, .ref afhd, .ref afin, .ref afjo, .ref afnu, .ref afre, .ref afse])), (afse, .inl (cI, 60, .inl fse))] U.heap ∧ va_K (dC, dI) vwCl [(cI, .int), (cJ, .long)] U ∧ va_D (fun _ => True) [(h0, .inr (1, [.int nv, .int na, .ref afbi, .ref afab, .ref afhd, .ref afin, .ref afjo, .ref afnu, .ref afre, .ref afse])), (afse, .inl (cI, 60, .inl fse))] ∧ nw U)) (va_Qi (fun (r : Int32) (u : Unit) => post r) (fun (u : Unit) (t : State) => va_P (dC, dI) vwCl [(h0, .inr (1, [.int nv, .int na, .ref afbi, .ref afab, .ref afhd, .ref afin, .ref afjo, .ref afnu, .ref afre, .ref afse])), (afse, .inl (cI, 60, .inl fse))] t.heap ∧ va_K (dC, dI) vwCl [(cI, .int), (cJ, .long)] t ∧ va_D (va_A [(h0, .inr (1, [.int nv, .int na, .ref afbi, .ref afab, .ref afhd, .ref afin, .ref afjo, .ref afnu, .ref afre, .ref afse])), (afse, .inl (cI, 60, .inl fse))] sz) [(h0, .inr (1, [.int nv, .int na, .ref afbi, .ref afab, .ref afhd, .ref afin, .ref afjo, .ref afnu, .ref afre, .ref afse])), (afse, .inl (cI, 60, .inl fse))]) (va_A [(h0, .inr (1, [.int nv, .int na, .ref afbi, .ref afab, .ref afhd, .ref afin, .ref afjo, .ref afnu, .ref afre, .ref afse])), (afse, .inl (cI, 60, .inl fse))] sz)) 0 0 (va_A [(h0, .inr (1, [.int nv, .int na, .ref afbi, .ref afab, .ref afhd, .ref afin, .ref afjo, .ref afnu, .ref afre, .ref afse])), (afse, .inl (cI, 60, .inl fse))] sz) := by
  refine Met.ofW (cc := cX1_setsWith) (maxL := 4) (ret := (some .int)) (by decide) rfl ?_
  intro p e s m args below meth c s₁ B hml hv
  obtain ⟨rfl, hsz, hP, hK, hD0, hN⟩ := hv
  have hx := B.exec
  have hb := B.bytes
  have hr := B.returns
  have hts := atoms_spec (ws := wsX1_setsWith) B.pre
  have hown : s.vm.findClass RX1 = some m.cls := findClass_of_methodNamed B.named
  have hlocks := B.notSynchronized
  subst hsz
  have hD := hD0.self (sz := s.heap.size)
  generalize hAe : va_A [(h0, .inr (1, [.int nv, .int na, .ref afbi, .ref afab, .ref afhd, .ref afin, .ref afjo, .ref afnu, .ref afre, .ref afse])), (afse, .inl (cI, 60, .inl fse))] s.heap.size = A at hD ⊢
  have hA : ∀ q : Nat, s.heap.size ≤ q → A q := fun q h => by rw [← hAe]; exact Or.inr h
  have hS : va_S A s.heap s.heap [] := va_S.rf
  have hl := lv_entry ([.ref h0, .int p1]) (n := 4) (Nat.le_of_ble_eq_true rfl)
  rw [lg_entry_eq]
  generalize (lg_sl ([.ref h0, .int p1]) ++ List.replicate (4 - (lg_sl ([.ref h0, .int p1])).length) Slot.unset).toArray = ls at hl ⊢
  replace hl : lv_has ls 4 [(0, .ref h0), (1, .int p1)] := hl
  have hw0 := (show ∀ w ∈ wsX10, w ∈ wsX1_setsWith from by decide +kernel)
  have hw1 := hts (.fieldLink RX1 9 "EffectNets$Net" "variables" "I") (by decide +kernel)
  have hw2 := hts (.fieldLink RX1 41 "EffectNets$Net" "sets" "[I") (by decide +kernel)
  have hw3 := hts (.initialized RX3) (by decide +kernel)
  have hw4 := hts (.static yX3_containsAtom) (by decide +kernel)
  refine hsp _ (fun (x2 : Int32) (x3 : Int32) => ∀ (H : Heap) (locs : List Loc) (ls : Array Slot), va_P (dC, dI) vwCl [(h0, .inr (1, [.int nv, .int na, .ref afbi, .ref afab, .ref afhd, .ref afin, .ref afjo, .ref afnu, .ref afre, .ref afse])), (afse, .inl (cI, 60, .inl fse))] H → va_D A [(h0, .inr (1, [.int nv, .int na, .ref afbi, .ref afab, .ref afhd, .ref afin, .ref afjo, .ref afnu, .ref afre, .ref afse])), (afse, .inl (cI, 60, .inl fse))] → va_S A s.heap H locs → lv_has ls 4 [(0, .ref h0), (1, .int p1), (2, .int x2), (3, .int x3)] → W p l e (headSpec wsX1_setsWith ({ frames := 1, cells := 0, slots := 0, locals := 21 })).room s m (List.toArray [.ref h0, .int p1]) below meth c H locs 0 0 (MQ below (va_Qi (fun (r : Int32) (u : Unit) => post r) (fun (u : Unit) (t : State) => va_P (dC, dI) vwCl [(h0, .inr (1, [.int nv, .int na, .ref afbi, .ref afab, .ref afhd, .ref afin, .ref afjo, .ref afnu, .ref afre, .ref afse])), (afse, .inl (cI, 60, .inl fse))] t.heap ∧ va_K (dC, dI) vwCl [(cI, .int), (cJ, .long)] t ∧ va_D A [(h0, .inr (1, [.int nv, .int na, .ref afbi, .ref afab, .ref afhd, .ref afin, .ref afjo, .ref afnu, .ref afre, .ref afse])), (afse, .inl (cI, 60, .inl fse))]) A) (List.toArray [.ref h0, .int p1]) s 0 0 A) (F0 m 4 ls [])) ?_ ?_
  · intro x2 x3 ht H locs ls hP hD hS hl
    refine lv_iload_n hx hb dX1_setsWith_4 rfl (lv_at hl 3 rfl) ?_
    refine lv_aload_n hx hb dX1_setsWith_5 rfl (lv_at hl 0 rfl) ?_
    refine va_get (D := (dC, dI)) (ci := 1) (v := .int nv) (C := RX1) (T := TX1) (N := 10) hx hb hts hw0 hown hK hP 0 rfl rfl 0 (by decide) hw1 (fun _ h9 => h9) rfl dX1_setsWith_6 ?_
    refine lv_icmp_ge (tgt := 34) hx hb dX1_setsWith_9 (by decide) (fun c1 => ?_) (fun c1 => ?_)
    · replace ht := ht.1 c1
      refine lv_iload_n hx hb dX1_setsWith_34 rfl (lv_at hl 2 rfl) ?_
      have hP9 : va_P (dC, dI) vwCl [(h0, .inr (1, [.int nv, .int na, .ref afbi, .ref afab, .ref afhd, .ref afin, .ref afjo, .ref afnu, .ref afre, .ref afse])), (afse, .inl (cI, 60, .inl fse))] _ := hP
      have hD9 : va_D A [(h0, .inr (1, [.int nv, .int na, .ref afbi, .ref afab, .ref afhd, .ref afin, .ref afjo, .ref afnu, .ref afre, .ref afse])), (afse, .inl (cI, 60, .inl fse))] := hD
      exact W.iret (v := x2) hx hb hr (fun t ht9 hW => ⟨⟨x2, (), rfl, ht, by rw [ht9]; exact hP9, va_K.moved hW.alike hK, hD9⟩, hS.F ht9⟩) hS.2.2 dX1_setsWith_35
    · replace ht := ht.2 c1
      refine lv_aload_n hx hb dX1_setsWith_12 rfl (lv_at hl 0 rfl) ?_
      refine va_get (D := (dC, dI)) (ci := 1) (v := .ref afse) (C := RX1) (T := TX1) (N := 10) hx hb hts hw0 hown hK hP 0 rfl rfl 9 (by decide) hw2 (fun _ h9 => h9) rfl dX1_setsWith_13 ?_
      refine lv_iload_n hx hb dX1_setsWith_16 rfl (lv_at hl 3 rfl) ?_
      obtain ⟨i2, ht⟩ := ht
      refine va_iald hx hb hK hP 1 0 rfl rfl i2 dX1_setsWith_17 ?_
      refine lv_iload_n hx hb dX1_setsWith_18 rfl (lv_at hl 1 rfl) ?_
      have hPc := hP.sub (ws' := []) [] rfl
      have hDc := hD.sub (ws' := []) [] (by decide) rfl
      have hFc := va_free (wc := []) hD hS hA [] rfl
      refine va_calli (va_runSN (As := [.int (fse x3.toNatClampNeg), .int p1]) (rest := []) ⟨hx, hb, hml, hown, hts⟩ (c_X3_containsAtom l dC dI cI cJ  H.size (fse x3.toNatClampNeg) p1 _ ht) ⟨va_cnB 2 hts gX1_setsWith_X3_containsAtom_n94 rfl rfl rfl hN.2.2.2.2.2.1 hw3 (by decide +kernel) ⟨Nat.le_of_ble_eq_true rfl, Nat.le_of_ble_eq_true rfl⟩, hw4, trivial⟩ ⟨fun a U g mk q => by obtain ⟨q0, q1, qP, qK, qD, qN⟩ := q; exact ⟨q0, q1, qP, va_K.moved (u := U) (U := U.calling g mk a) (Vm.Alike.refl U.vm) qK, qD, nw_same rfl qN⟩, fun U hU hW => ⟨rfl, by rw [hU], by rw [hU]; exact hPc, va_K.moved hW.alike hK, hDc.weaken (fun _ _ _ _ => trivial), nw_warm hW hN⟩⟩ rfl rfl hl.1 rfl (lv_room (Nat.le_of_ble_eq_true rfl)) dX1_setsWith_19 ⟨Nat.le_of_ble_eq_true rfl, Nat.le_of_ble_eq_true rfl⟩) hS (fun q _ h => hFc q h) hFc (fun r3 u t H1 locs ht9 hvm hw hB hz1 hk1 hS => ?_)
      obtain ⟨hP1, hK1, hD1⟩ := hB
      rw [ht9] at hP1
      try dsimp only at hw
      replace ht := hw
      obtain ⟨hP, hD⟩ := va_join (wr := [(h0, .inr (1, [.int nv, .int na, .ref afbi, .ref afab, .ref afhd, .ref afin, .ref afjo, .ref afnu, .ref afre, .ref afse])), (afse, .inl (cI, 60, .inl fse))]) (w1 := []) hP hD [] [0, 1] rfl rfl (by decide) (by decide) hk1 hFc hP1 hD1
      generalize H1 = H at hP hS ⊢
      replace hP : va_P (dC, dI) vwCl [(h0, .inr (1, [.int nv, .int na, .ref afbi, .ref afab, .ref afhd, .ref afin, .ref afjo, .ref afnu, .ref afre, .ref afse])), (afse, .inl (cI, 60, .inl fse))] H := hP
      replace hD : va_D A [(h0, .inr (1, [.int nv, .int na, .ref afbi, .ref afab, .ref afhd, .ref afin, .ref afjo, .ref afnu, .ref afre, .ref afse])), (afse, .inl (cI, 60, .inl fse))] := hD
      refine lv_if_eq (tgt := 28) hx hb dX1_setsWith_22 (by decide) (fun c4 => ?_) (fun c4 => ?_)
      · replace ht := ht.1 c4
        obtain ⟨y5, ey5⟩ : ∃ y : Int32, y = x3 + 1 := ⟨_, rfl⟩
        replace ht := ht y5 ey5
        refine lv_iinc (v := y5) (lv' := [(3, .int y5), (0, .ref h0), (1, .int p1), (2, .int x2)]) hx hb dX1_setsWith_28 hl (k := 3) rfl (by rw [ey5]; rfl) (by decide) rfl (fun ls hl => ?_)
        refine lv_goto (tgt := 4) hx hb dX1_setsWith_31 (by decide) ?_
        exact ht _ _ _ hP hD hS (lv_sub hl [1, 2, 3, 0] rfl)
      · replace ht := ht.2 c4
        obtain ⟨y6, ey6⟩ : ∃ y : Int32, y = x2 + 1 := ⟨_, rfl⟩
        replace ht := ht y6 ey6
        refine lv_iinc (v := y6) (lv' := [(2, .int y6), (0, .ref h0), (1, .int p1), (3, .int x3)]) hx hb dX1_setsWith_25 hl (k := 2) rfl (by rw [ey6]; rfl) (by decide) rfl (fun ls hl => ?_)
        obtain ⟨y7, ey7⟩ : ∃ y : Int32, y = x3 + 1 := ⟨_, rfl⟩
        replace ht := ht y7 ey7
        refine lv_iinc (v := y7) (lv' := [(3, .int y7), (2, .int y6), (0, .ref h0), (1, .int p1)]) hx hb dX1_setsWith_28 hl (k := 3) rfl (by rw [ey7]; rfl) (by decide) rfl (fun ls hl => ?_)
        refine lv_goto (tgt := 4) hx hb dX1_setsWith_31 (by decide) ?_
        exact ht _ _ _ hP hD hS (lv_sub hl [2, 3, 1, 0] rfl)
  · intro ht
    refine lv_iconst (v := 0) hx hb dX1_setsWith_0 (by decide) ?_
    refine lv_istore_n (lv' := [(2, .int 0), (0, .ref h0), (1, .int p1)]) hx hb dX1_setsWith_1 rfl hl (by decide) rfl (fun ls hl => ?_)
    refine lv_iconst (v := 0) hx hb dX1_setsWith_2 (by decide) ?_
    refine lv_istore_n (lv' := [(3, .int 0), (2, .int 0), (0, .ref h0), (1, .int p1)]) hx hb dX1_setsWith_3 rfl hl (by decide) rfl (fun ls hl => ?_)
    exact ht _ _ _ hP hD hS (lv_sub hl [2, 3, 1, 0] rfl)
set_option maxHeartbeats 4000000 in
set_option maxRecDepth 100000 in
theorem c_X1_variablesUpTo (l : Launch) (dC : Nat → ClassId) (dI : Nat → Nat → Nat) (cI cJ : ClassId) (h0 : Nat) (afbi : Nat) (afab : Nat) (afhd : Nat) (afin : Nat) (afjo : Nat) (afnu : Nat) (afre : Nat) (afse : Nat) (nv : Int32) (na : Int32) (fbi : Nat → Int32) (fre : Nat → Int64) (sz : Nat) (p1 : Int32) (post : Int64 → Prop) (hsp : S_X1_variablesUpTo p1 nv fbi fre post) : Met l yX1_variablesUpTo wsX1_variablesUpTo ({ frames := 0, cells := 0, slots := 0, locals := 0 }) (va_Pc [.ref h0, .int p1] (fun U => U.heap.size = sz ∧ va_P (dC, dI) vwCl [(h0, .inr (1, [.int nv, .int na, .ref afbi, .ref afab, .ref afhd, .ref afin, .ref afjo, .ref afnu, .ref afre, .ref afse])), (afbi, .inl (cI, 60, .inl fbi)), (afre, .inl (cJ, 60, .inr (.inl fre)))] U.heap ∧ va_K (dC, dI) vwCl [(cI, .int), (cJ, .long)] U ∧ va_D (fun _ => True) [(h0, .inr (1, [.int nv, .int na, .ref afbi, .ref afab, .ref afhd, .ref afin, .ref afjo, .ref afnu, .ref afre, .ref afse])), (afbi, .inl (cI, 60, .inl fbi)), (afre, .inl (cJ, 60, .inr (.inl fre)))] ∧ nw U)) (va_Ql (fun (r : Int64) (u : Unit) => post r) (fun (u : Unit) (t : State) => va_P (dC, dI) vwCl [(h0, .inr (1, [.int nv, .int na, .ref afbi, .ref afab, .ref afhd, .ref afin, .ref afjo, .ref afnu, .ref afre, .ref afse])), (afbi, .inl (cI, 60, .inl fbi)), (afre, .inl (cJ, 60, .inr (.inl fre)))] t.heap ∧ va_K (dC, dI) vwCl [(cI, .int), (cJ, .long)] t ∧ va_D (va_A [(h0, .inr (1, [.int nv, .int na, .ref afbi, .ref afab, .ref afhd, .ref afin, .ref afjo, .ref afnu, .ref afre, .ref afse])), (afbi, .inl (cI, 60, .inl fbi)), (afre, .inl (cJ, 60, .inr (.inl fre)))] sz) [(h0, .inr (1, [.int nv, .int na, .ref afbi, .ref afab, .ref afhd, .ref afin, .ref afjo, .ref afnu, .ref afre, .ref afse])), (afbi, .inl (cI, 60, .inl fbi)), (afre, .inl (cJ, 60, .inr (.inl fre)))]) (va_A [(h0, .inr (1, [.int nv, .int na, .ref afbi, .ref afab, .ref afhd, .ref afin, .ref afjo, .ref afnu, .ref afre, .ref afse])), (afbi, .inl (cI, 60, .inl fbi)), (afre, .inl (cJ, 60, .inr (.inl fre)))] sz)) 0 0 (va_A [(h0, .inr (1, [.int nv, .int na, .ref afbi, .ref afab, .ref afhd, .ref afin, .ref afjo, .ref afnu, .ref afre, .ref afse])), (afbi, .inl (cI, 60, .inl fbi)), (afre, .inl (cJ, 60, .inr (.inl fre)))] sz) := by
  refine Met.ofW (cc := cX1_variablesUpTo) (maxL := 5) (ret := (some .long)) (by decide) rfl ?_
  intro p e s m args below meth c s₁ B hml hv
  obtain ⟨rfl, hsz, hP, hK, hD0, hN⟩ := hv
  have hx := B.exec
  have hb := B.bytes
  have hr := B.returns
  have hts := atoms_spec (ws := wsX1_variablesUpTo) B.pre
  have hown : s.vm.findClass RX1 = some m.cls := findClass_of_methodNamed B.named
  have hlocks := B.notSynchronized
  subst hsz
  have hD := hD0.self (sz := s.heap.size)
  generalize hAe : va_A [(h0, .inr (1, [.int nv, .int na, .ref afbi, .ref afab, .ref afhd, .ref afin, .ref afjo, .ref afnu, .ref afre, .ref afse])), (afbi, .inl (cI, 60, .inl fbi)), (afre, .inl (cJ, 60, .inr (.inl fre)))] s.heap.size = A at hD ⊢
  have hA : ∀ q : Nat, s.heap.size ≤ q → A q := fun q h => by rw [← hAe]; exact Or.inr h
  have hS : va_S A s.heap s.heap [] := va_S.rf
  have hl := lv_entry ([.ref h0, .int p1]) (n := 5) (Nat.le_of_ble_eq_true rfl)
  rw [lg_entry_eq]
  generalize (lg_sl ([.ref h0, .int p1]) ++ List.replicate (5 - (lg_sl ([.ref h0, .int p1])).length) Slot.unset).toArray = ls at hl ⊢
  replace hl : lv_has ls 5 [(0, .ref h0), (1, .int p1)] := hl
  have hw0 := (show ∀ w ∈ wsX10, w ∈ wsX1_variablesUpTo from by decide +kernel)
  have hw1 := hts (.fieldLink RX1 9 "EffectNets$Net" "variables" "I") (by decide +kernel)
  have hw2 := hts (.fieldLink RX1 18 "EffectNets$Net" "births" "[I") (by decide +kernel)
  have hw3 := hts (.fieldLink RX1 38 "EffectNets$Net" "reached" "[J") (by decide +kernel)
  refine hsp _ (fun (x2 : Int64) (x4 : Int32) => ∀ (H : Heap) (locs : List Loc) (ls : Array Slot), va_P (dC, dI) vwCl [(h0, .inr (1, [.int nv, .int na, .ref afbi, .ref afab, .ref afhd, .ref afin, .ref afjo, .ref afnu, .ref afre, .ref afse])), (afbi, .inl (cI, 60, .inl fbi)), (afre, .inl (cJ, 60, .inr (.inl fre)))] H → va_D A [(h0, .inr (1, [.int nv, .int na, .ref afbi, .ref afab, .ref afhd, .ref afin, .ref afjo, .ref afnu, .ref afre, .ref afse])), (afbi, .inl (cI, 60, .inl fbi)), (afre, .inl (cJ, 60, .inr (.inl fre)))] → va_S A s.heap H locs → lv_has ls 5 [(0, .ref h0), (1, .int p1), (2, .long x2), (4, .int x4)] → W p l e (headSpec wsX1_variablesUpTo ({ frames := 0, cells := 0, slots := 0, locals := 0 })).room s m (List.toArray [.ref h0, .int p1]) below meth c H locs 0 0 (MQ below (va_Ql (fun (r : Int64) (u : Unit) => post r) (fun (u : Unit) (t : State) => va_P (dC, dI) vwCl [(h0, .inr (1, [.int nv, .int na, .ref afbi, .ref afab, .ref afhd, .ref afin, .ref afjo, .ref afnu, .ref afre, .ref afse])), (afbi, .inl (cI, 60, .inl fbi)), (afre, .inl (cJ, 60, .inr (.inl fre)))] t.heap ∧ va_K (dC, dI) vwCl [(cI, .int), (cJ, .long)] t ∧ va_D A [(h0, .inr (1, [.int nv, .int na, .ref afbi, .ref afab, .ref afhd, .ref afin, .ref afjo, .ref afnu, .ref afre, .ref afse])), (afbi, .inl (cI, 60, .inl fbi)), (afre, .inl (cJ, 60, .inr (.inl fre)))]) A) (List.toArray [.ref h0, .int p1]) s 0 0 A) (F0 m 5 ls [])) ?_ ?_
  · intro x2 x4 ht H locs ls hP hD hS hl
    refine lv_iload hx hb dX1_variablesUpTo_5 (lv_at hl 3 rfl) ?_
    refine lv_aload_n hx hb dX1_variablesUpTo_7 rfl (lv_at hl 0 rfl) ?_
    refine va_get (D := (dC, dI)) (ci := 1) (v := .int nv) (C := RX1) (T := TX1) (N := 10) hx hb hts hw0 hown hK hP 0 rfl rfl 0 (by decide) hw1 (fun _ h9 => h9) rfl dX1_variablesUpTo_8 ?_
    refine lv_icmp_ge (tgt := 41) hx hb dX1_variablesUpTo_11 (by decide) (fun c1 => ?_) (fun c1 => ?_)
    · replace ht := ht.1 c1
      refine lv_lload_n hx hb dX1_variablesUpTo_41 rfl (lv_at hl 2 rfl) ?_
      have hP9 : va_P (dC, dI) vwCl [(h0, .inr (1, [.int nv, .int na, .ref afbi, .ref afab, .ref afhd, .ref afin, .ref afjo, .ref afnu, .ref afre, .ref afse])), (afbi, .inl (cI, 60, .inl fbi)), (afre, .inl (cJ, 60, .inr (.inl fre)))] _ := hP
      have hD9 : va_D A [(h0, .inr (1, [.int nv, .int na, .ref afbi, .ref afab, .ref afhd, .ref afin, .ref afjo, .ref afnu, .ref afre, .ref afse])), (afbi, .inl (cI, 60, .inl fbi)), (afre, .inl (cJ, 60, .inr (.inl fre)))] := hD
      exact W.lret (v := x2) hx hb hr (fun t ht9 hW => ⟨⟨x2, (), rfl, ht, by rw [ht9]; exact hP9, va_K.moved hW.alike hK, hD9⟩, hS.F ht9⟩) hS.2.2 dX1_variablesUpTo_42
    · replace ht := ht.2 c1
      refine lv_aload_n hx hb dX1_variablesUpTo_14 rfl (lv_at hl 0 rfl) ?_
      refine va_get (D := (dC, dI)) (ci := 1) (v := .ref afbi) (C := RX1) (T := TX1) (N := 10) hx hb hts hw0 hown hK hP 0 rfl rfl 2 (by decide) hw2 (fun _ h9 => h9) rfl dX1_variablesUpTo_15 ?_
      refine lv_iload hx hb dX1_variablesUpTo_18 (lv_at hl 3 rfl) ?_
      obtain ⟨i2, ht⟩ := ht
      refine va_iald hx hb hK hP 1 0 rfl rfl i2 dX1_variablesUpTo_20 ?_
      refine lv_iload_n hx hb dX1_variablesUpTo_21 rfl (lv_at hl 1 rfl) ?_
      refine lv_icmp_gt (tgt := 35) hx hb dX1_variablesUpTo_22 (by decide) (fun c3 => ?_) (fun c3 => ?_)
      · replace ht := ht.1 c3
        obtain ⟨y4, ey4⟩ : ∃ y : Int32, y = x4 + 1 := ⟨_, rfl⟩
        replace ht := ht y4 ey4
        refine lv_iinc (v := y4) (lv' := [(4, .int y4), (0, .ref h0), (1, .int p1), (2, .long x2)]) hx hb dX1_variablesUpTo_35 hl (k := 3) rfl (by rw [ey4]; rfl) (by decide) rfl (fun ls hl => ?_)
        refine lv_goto (tgt := 5) hx hb dX1_variablesUpTo_38 (by decide) ?_
        exact ht _ _ _ hP hD hS (lv_sub hl [1, 2, 3, 0] rfl)
      · replace ht := ht.2 c3
        refine lv_lload_n hx hb dX1_variablesUpTo_25 rfl (lv_at hl 2 rfl) ?_
        refine lv_aload_n hx hb dX1_variablesUpTo_26 rfl (lv_at hl 0 rfl) ?_
        refine va_get (D := (dC, dI)) (ci := 1) (v := .ref afre) (C := RX1) (T := TX1) (N := 10) hx hb hts hw0 hown hK hP 0 rfl rfl 8 (by decide) hw3 (fun _ h9 => h9) rfl dX1_variablesUpTo_27 ?_
        refine lv_iload hx hb dX1_variablesUpTo_30 (lv_at hl 3 rfl) ?_
        refine va_lald hx hb hK hP 2 1 rfl rfl i2 dX1_variablesUpTo_32 ?_
        refine lv_lor hx hb dX1_variablesUpTo_33 ?_
        refine lv_topl (fun y5 ey5 => ?_)
        replace ht := ht y5 ey5
        refine lv_lstore_n (lv' := [(2, .long y5), (0, .ref h0), (1, .int p1), (4, .int x4)]) hx hb dX1_variablesUpTo_34 rfl hl (by decide) rfl (fun ls hl => ?_)
        obtain ⟨y6, ey6⟩ : ∃ y : Int32, y = x4 + 1 := ⟨_, rfl⟩
        replace ht := ht y6 ey6
        refine lv_iinc (v := y6) (lv' := [(4, .int y6), (2, .long y5), (0, .ref h0), (1, .int p1)]) hx hb dX1_variablesUpTo_35 hl (k := 3) rfl (by rw [ey6]; rfl) (by decide) rfl (fun ls hl => ?_)
        refine lv_goto (tgt := 5) hx hb dX1_variablesUpTo_38 (by decide) ?_
        exact ht _ _ _ hP hD hS (lv_sub hl [2, 3, 1, 0] rfl)
  · intro ht
    refine lv_lconst (v := 0) hx hb dX1_variablesUpTo_0 rfl ?_
    refine lv_lstore_n (lv' := [(2, .long 0), (0, .ref h0), (1, .int p1)]) hx hb dX1_variablesUpTo_1 rfl hl (by decide) rfl (fun ls hl => ?_)
    refine lv_iconst (v := 0) hx hb dX1_variablesUpTo_2 (by decide) ?_
    refine lv_istore (lv' := [(4, .int 0), (2, .long 0), (0, .ref h0), (1, .int p1)]) hx hb dX1_variablesUpTo_3 hl (by decide) rfl (fun ls hl => ?_)
    exact ht _ _ _ hP hD hS (lv_sub hl [2, 3, 1, 0] rfl)
set_option maxHeartbeats 4000000 in
set_option maxRecDepth 100000 in
theorem c_X1_atomsUpTo (l : Launch) (dC : Nat → ClassId) (dI : Nat → Nat → Nat) (cI cJ : ClassId) (h0 : Nat) (afbi : Nat) (afab : Nat) (afhd : Nat) (afin : Nat) (afjo : Nat) (afnu : Nat) (afre : Nat) (afse : Nat) (nv : Int32) (na : Int32) (fbi : Nat → Int32) (fab : Nat → Int32) (fse : Nat → Int32) (sz : Nat) (p1 : Int32) (post : Int32 → Prop) (hsp : S_X1_atomsUpTo p1 nv na fbi fab fse post) : Met l yX1_atomsUpTo wsX1_atomsUpTo ({ frames := 0, cells := 0, slots := 0, locals := 0 }) (va_Pc [.ref h0, .int p1] (fun U => U.heap.size = sz ∧ va_P (dC, dI) vwCl [(h0, .inr (1, [.int nv, .int na, .ref afbi, .ref afab, .ref afhd, .ref afin, .ref afjo, .ref afnu, .ref afre, .ref afse])), (afbi, .inl (cI, 60, .inl fbi)), (afab, .inl (cI, 32, .inl fab)), (afse, .inl (cI, 60, .inl fse))] U.heap ∧ va_K (dC, dI) vwCl [(cI, .int), (cJ, .long)] U ∧ va_D (fun _ => True) [(h0, .inr (1, [.int nv, .int na, .ref afbi, .ref afab, .ref afhd, .ref afin, .ref afjo, .ref afnu, .ref afre, .ref afse])), (afbi, .inl (cI, 60, .inl fbi)), (afab, .inl (cI, 32, .inl fab)), (afse, .inl (cI, 60, .inl fse))] ∧ nw U)) (va_Qi (fun (r : Int32) (u : Unit) => post r) (fun (u : Unit) (t : State) => va_P (dC, dI) vwCl [(h0, .inr (1, [.int nv, .int na, .ref afbi, .ref afab, .ref afhd, .ref afin, .ref afjo, .ref afnu, .ref afre, .ref afse])), (afbi, .inl (cI, 60, .inl fbi)), (afab, .inl (cI, 32, .inl fab)), (afse, .inl (cI, 60, .inl fse))] t.heap ∧ va_K (dC, dI) vwCl [(cI, .int), (cJ, .long)] t ∧ va_D (va_A [(h0, .inr (1, [.int nv, .int na, .ref afbi, .ref afab, .ref afhd, .ref afin, .ref afjo, .ref afnu, .ref afre, .ref afse])), (afbi, .inl (cI, 60, .inl fbi)), (afab, .inl (cI, 32, .inl fab)), (afse, .inl (cI, 60, .inl fse))] sz) [(h0, .inr (1, [.int nv, .int na, .ref afbi, .ref afab, .ref afhd, .ref afin, .ref afjo, .ref afnu, .ref afre, .ref afse])), (afbi, .inl (cI, 60, .inl fbi)), (afab, .inl (cI, 32, .inl fab)), (afse, .inl (cI, 60, .inl fse))]) (va_A [(h0, .inr (1, [.int nv, .int na, .ref afbi, .ref afab, .ref afhd, .ref afin, .ref afjo, .ref afnu, .ref afre, .ref afse])), (afbi, .inl (cI, 60, .inl fbi)), (afab, .inl (cI, 32, .inl fab)), (afse, .inl (cI, 60, .inl fse))] sz)) 0 0 (va_A [(h0, .inr (1, [.int nv, .int na, .ref afbi, .ref afab, .ref afhd, .ref afin, .ref afjo, .ref afnu, .ref afre, .ref afse])), (afbi, .inl (cI, 60, .inl fbi)), (afab, .inl (cI, 32, .inl fab)), (afse, .inl (cI, 60, .inl fse))] sz) := by
  refine Met.ofW (cc := cX1_atomsUpTo) (maxL := 4) (ret := (some .int)) (by decide) rfl ?_
  intro p e s m args below meth c s₁ B hml hv
  obtain ⟨rfl, hsz, hP, hK, hD0, hN⟩ := hv
  have hx := B.exec
  have hb := B.bytes
  have hr := B.returns
  have hts := atoms_spec (ws := wsX1_atomsUpTo) B.pre
  have hown : s.vm.findClass RX1 = some m.cls := findClass_of_methodNamed B.named
  have hlocks := B.notSynchronized
  subst hsz
  have hD := hD0.self (sz := s.heap.size)
  generalize hAe : va_A [(h0, .inr (1, [.int nv, .int na, .ref afbi, .ref afab, .ref afhd, .ref afin, .ref afjo, .ref afnu, .ref afre, .ref afse])), (afbi, .inl (cI, 60, .inl fbi)), (afab, .inl (cI, 32, .inl fab)), (afse, .inl (cI, 60, .inl fse))] s.heap.size = A at hD ⊢
  have hA : ∀ q : Nat, s.heap.size ≤ q → A q := fun q h => by rw [← hAe]; exact Or.inr h
  have hS : va_S A s.heap s.heap [] := va_S.rf
  have hl := lv_entry ([.ref h0, .int p1]) (n := 4) (Nat.le_of_ble_eq_true rfl)
  rw [lg_entry_eq]
  generalize (lg_sl ([.ref h0, .int p1]) ++ List.replicate (4 - (lg_sl ([.ref h0, .int p1])).length) Slot.unset).toArray = ls at hl ⊢
  replace hl : lv_has ls 4 [(0, .ref h0), (1, .int p1)] := hl
  have hw0 := (show ∀ w ∈ wsX10, w ∈ wsX1_atomsUpTo from by decide +kernel)
  have hw1 := hts (.fieldLink RX1 9 "EffectNets$Net" "variables" "I") (by decide +kernel)
  have hw2 := hts (.fieldLink RX1 18 "EffectNets$Net" "births" "[I") (by decide +kernel)
  have hw3 := hts (.fieldLink RX1 41 "EffectNets$Net" "sets" "[I") (by decide +kernel)
  have hw4 := hts (.fieldLink RX1 15 "EffectNets$Net" "atoms" "I") (by decide +kernel)
  have hw5 := hts (.fieldLink RX1 22 "EffectNets$Net" "atomBirths" "[I") (by decide +kernel)
  refine hsp _ (fun (x2 : Int32) (x3 : Int32) => ∀ (H : Heap) (locs : List Loc) (ls : Array Slot), va_P (dC, dI) vwCl [(h0, .inr (1, [.int nv, .int na, .ref afbi, .ref afab, .ref afhd, .ref afin, .ref afjo, .ref afnu, .ref afre, .ref afse])), (afbi, .inl (cI, 60, .inl fbi)), (afab, .inl (cI, 32, .inl fab)), (afse, .inl (cI, 60, .inl fse))] H → va_D A [(h0, .inr (1, [.int nv, .int na, .ref afbi, .ref afab, .ref afhd, .ref afin, .ref afjo, .ref afnu, .ref afre, .ref afse])), (afbi, .inl (cI, 60, .inl fbi)), (afab, .inl (cI, 32, .inl fab)), (afse, .inl (cI, 60, .inl fse))] → va_S A s.heap H locs → lv_has ls 4 [(0, .ref h0), (1, .int p1), (2, .int x2), (3, .int x3)] → W p l e (headSpec wsX1_atomsUpTo ({ frames := 0, cells := 0, slots := 0, locals := 0 })).room s m (List.toArray [.ref h0, .int p1]) below meth c H locs 0 0 (MQ below (va_Qi (fun (r : Int32) (u : Unit) => post r) (fun (u : Unit) (t : State) => va_P (dC, dI) vwCl [(h0, .inr (1, [.int nv, .int na, .ref afbi, .ref afab, .ref afhd, .ref afin, .ref afjo, .ref afnu, .ref afre, .ref afse])), (afbi, .inl (cI, 60, .inl fbi)), (afab, .inl (cI, 32, .inl fab)), (afse, .inl (cI, 60, .inl fse))] t.heap ∧ va_K (dC, dI) vwCl [(cI, .int), (cJ, .long)] t ∧ va_D A [(h0, .inr (1, [.int nv, .int na, .ref afbi, .ref afab, .ref afhd, .ref afin, .ref afjo, .ref afnu, .ref afre, .ref afse])), (afbi, .inl (cI, 60, .inl fbi)), (afab, .inl (cI, 32, .inl fab)), (afse, .inl (cI, 60, .inl fse))]) A) (List.toArray [.ref h0, .int p1]) s 0 0 A) (F0 m 4 ls [])) (fun (x2 : Int32) (x3 : Int32) => ∀ (H : Heap) (locs : List Loc) (ls : Array Slot), va_P (dC, dI) vwCl [(h0, .inr (1, [.int nv, .int na, .ref afbi, .ref afab, .ref afhd, .ref afin, .ref afjo, .ref afnu, .ref afre, .ref afse])), (afbi, .inl (cI, 60, .inl fbi)), (afab, .inl (cI, 32, .inl fab)), (afse, .inl (cI, 60, .inl fse))] H → va_D A [(h0, .inr (1, [.int nv, .int na, .ref afbi, .ref afab, .ref afhd, .ref afin, .ref afjo, .ref afnu, .ref afre, .ref afse])), (afbi, .inl (cI, 60, .inl fbi)), (afab, .inl (cI, 32, .inl fab)), (afse, .inl (cI, 60, .inl fse))] → va_S A s.heap H locs → lv_has ls 4 [(0, .ref h0), (1, .int p1), (2, .int x2), (3, .int x3)] → W p l e (headSpec wsX1_atomsUpTo ({ frames := 0, cells := 0, slots := 0, locals := 0 })).room s m (List.toArray [.ref h0, .int p1]) below meth c H locs 0 0 (MQ below (va_Qi (fun (r : Int32) (u : Unit) => post r) (fun (u : Unit) (t : State) => va_P (dC, dI) vwCl [(h0, .inr (1, [.int nv, .int na, .ref afbi, .ref afab, .ref afhd, .ref afin, .ref afjo, .ref afnu, .ref afre, .ref afse])), (afbi, .inl (cI, 60, .inl fbi)), (afab, .inl (cI, 32, .inl fab)), (afse, .inl (cI, 60, .inl fse))] t.heap ∧ va_K (dC, dI) vwCl [(cI, .int), (cJ, .long)] t ∧ va_D A [(h0, .inr (1, [.int nv, .int na, .ref afbi, .ref afab, .ref afhd, .ref afin, .ref afjo, .ref afnu, .ref afre, .ref afse])), (afbi, .inl (cI, 60, .inl fbi)), (afab, .inl (cI, 32, .inl fab)), (afse, .inl (cI, 60, .inl fse))]) A) (List.toArray [.ref h0, .int p1]) s 0 0 A) (F0 m 39 ls [])) ?_ ?_ ?_
  · intro x2 x3 ht H locs ls hP hD hS hl
    refine lv_iload_n hx hb dX1_atomsUpTo_4 rfl (lv_at hl 3 rfl) ?_
    refine lv_aload_n hx hb dX1_atomsUpTo_5 rfl (lv_at hl 0 rfl) ?_
    refine va_get (D := (dC, dI)) (ci := 1) (v := .int nv) (C := RX1) (T := TX1) (N := 10) hx hb hts hw0 hown hK hP 0 rfl rfl 0 (by decide) hw1 (fun _ h9 => h9) rfl dX1_atomsUpTo_6 ?_
    refine lv_icmp_ge (tgt := 37) hx hb dX1_atomsUpTo_9 (by decide) (fun c1 => ?_) (fun c1 => ?_)
    · replace ht := ht.1 c1
      refine lv_iconst (v := 0) hx hb dX1_atomsUpTo_37 (by decide) ?_
      refine lv_istore_n (lv' := [(3, .int 0), (0, .ref h0), (1, .int p1), (2, .int x2)]) hx hb dX1_atomsUpTo_38 rfl hl (by decide) rfl (fun ls hl => ?_)
      exact ht _ _ _ hP hD hS (lv_sub hl [1, 2, 3, 0] rfl)
    · replace ht := ht.2 c1
      refine lv_aload_n hx hb dX1_atomsUpTo_12 rfl (lv_at hl 0 rfl) ?_
      refine va_get (D := (dC, dI)) (ci := 1) (v := .ref afbi) (C := RX1) (T := TX1) (N := 10) hx hb hts hw0 hown hK hP 0 rfl rfl 2 (by decide) hw2 (fun _ h9 => h9) rfl dX1_atomsUpTo_13 ?_
      refine lv_iload_n hx hb dX1_atomsUpTo_16 rfl (lv_at hl 3 rfl) ?_
      obtain ⟨i2, ht⟩ := ht
      refine va_iald hx hb hK hP 1 0 rfl rfl i2 dX1_atomsUpTo_17 ?_
      refine lv_iload_n hx hb dX1_atomsUpTo_18 rfl (lv_at hl 1 rfl) ?_
      refine lv_icmp_gt (tgt := 31) hx hb dX1_atomsUpTo_19 (by decide) (fun c3 => ?_) (fun c3 => ?_)
      · replace ht := ht.1 c3
        obtain ⟨y4, ey4⟩ : ∃ y : Int32, y = x3 + 1 := ⟨_, rfl⟩
        replace ht := ht y4 ey4
        refine lv_iinc (v := y4) (lv' := [(3, .int y4), (0, .ref h0), (1, .int p1), (2, .int x2)]) hx hb dX1_atomsUpTo_31 hl (k := 3) rfl (by rw [ey4]; rfl) (by decide) rfl (fun ls hl => ?_)
        refine lv_goto (tgt := 4) hx hb dX1_atomsUpTo_34 (by decide) ?_
        exact ht _ _ _ hP hD hS (lv_sub hl [1, 2, 3, 0] rfl)
      · replace ht := ht.2 c3
        refine lv_iload_n hx hb dX1_atomsUpTo_22 rfl (lv_at hl 2 rfl) ?_
        refine lv_aload_n hx hb dX1_atomsUpTo_23 rfl (lv_at hl 0 rfl) ?_
        refine va_get (D := (dC, dI)) (ci := 1) (v := .ref afse) (C := RX1) (T := TX1) (N := 10) hx hb hts hw0 hown hK hP 0 rfl rfl 9 (by decide) hw3 (fun _ h9 => h9) rfl dX1_atomsUpTo_24 ?_
        refine lv_iload_n hx hb dX1_atomsUpTo_27 rfl (lv_at hl 3 rfl) ?_
        refine va_iald hx hb hK hP 3 0 rfl rfl i2 dX1_atomsUpTo_28 ?_
        refine lv_ior hx hb dX1_atomsUpTo_29 ?_
        refine lv_topi (fun y5 ey5 => ?_)
        replace ht := ht y5 ey5
        refine lv_istore_n (lv' := [(2, .int y5), (0, .ref h0), (1, .int p1), (3, .int x3)]) hx hb dX1_atomsUpTo_30 rfl hl (by decide) rfl (fun ls hl => ?_)
        obtain ⟨y6, ey6⟩ : ∃ y : Int32, y = x3 + 1 := ⟨_, rfl⟩
        replace ht := ht y6 ey6
        refine lv_iinc (v := y6) (lv' := [(3, .int y6), (2, .int y5), (0, .ref h0), (1, .int p1)]) hx hb dX1_atomsUpTo_31 hl (k := 3) rfl (by rw [ey6]; rfl) (by decide) rfl (fun ls hl => ?_)
        refine lv_goto (tgt := 4) hx hb dX1_atomsUpTo_34 (by decide) ?_
        exact ht _ _ _ hP hD hS (lv_sub hl [2, 3, 1, 0] rfl)
  · intro x2 x3 ht H locs ls hP hD hS hl
    refine lv_iload_n hx hb dX1_atomsUpTo_39 rfl (lv_at hl 3 rfl) ?_
    refine lv_aload_n hx hb dX1_atomsUpTo_40 rfl (lv_at hl 0 rfl) ?_
    refine va_get (D := (dC, dI)) (ci := 1) (v := .int na) (C := RX1) (T := TX1) (N := 10) hx hb hts hw0 hown hK hP 0 rfl rfl 1 (by decide) hw4 (fun _ h9 => h9) rfl dX1_atomsUpTo_41 ?_
    refine lv_icmp_ge (tgt := 69) hx hb dX1_atomsUpTo_44 (by decide) (fun c7 => ?_) (fun c7 => ?_)
    · replace ht := ht.1 c7
      refine lv_iload_n hx hb dX1_atomsUpTo_69 rfl (lv_at hl 2 rfl) ?_
      have hP9 : va_P (dC, dI) vwCl [(h0, .inr (1, [.int nv, .int na, .ref afbi, .ref afab, .ref afhd, .ref afin, .ref afjo, .ref afnu, .ref afre, .ref afse])), (afbi, .inl (cI, 60, .inl fbi)), (afab, .inl (cI, 32, .inl fab)), (afse, .inl (cI, 60, .inl fse))] _ := hP
      have hD9 : va_D A [(h0, .inr (1, [.int nv, .int na, .ref afbi, .ref afab, .ref afhd, .ref afin, .ref afjo, .ref afnu, .ref afre, .ref afse])), (afbi, .inl (cI, 60, .inl fbi)), (afab, .inl (cI, 32, .inl fab)), (afse, .inl (cI, 60, .inl fse))] := hD
      exact W.iret (v := x2) hx hb hr (fun t ht9 hW => ⟨⟨x2, (), rfl, ht, by rw [ht9]; exact hP9, va_K.moved hW.alike hK, hD9⟩, hS.F ht9⟩) hS.2.2 dX1_atomsUpTo_70
    · replace ht := ht.2 c7
      refine lv_aload_n hx hb dX1_atomsUpTo_47 rfl (lv_at hl 0 rfl) ?_
      refine va_get (D := (dC, dI)) (ci := 1) (v := .ref afab) (C := RX1) (T := TX1) (N := 10) hx hb hts hw0 hown hK hP 0 rfl rfl 3 (by decide) hw5 (fun _ h9 => h9) rfl dX1_atomsUpTo_48 ?_
      refine lv_iload_n hx hb dX1_atomsUpTo_51 rfl (lv_at hl 3 rfl) ?_
      obtain ⟨i8, ht⟩ := ht
      refine va_iald hx hb hK hP 2 0 rfl rfl i8 dX1_atomsUpTo_52 ?_
      refine lv_iload_n hx hb dX1_atomsUpTo_53 rfl (lv_at hl 1 rfl) ?_
      refine lv_icmp_gt (tgt := 63) hx hb dX1_atomsUpTo_54 (by decide) (fun c9 => ?_) (fun c9 => ?_)
      · replace ht := ht.1 c9
        obtain ⟨y10, ey10⟩ : ∃ y : Int32, y = x3 + 1 := ⟨_, rfl⟩
        replace ht := ht y10 ey10
        refine lv_iinc (v := y10) (lv' := [(3, .int y10), (0, .ref h0), (1, .int p1), (2, .int x2)]) hx hb dX1_atomsUpTo_63 hl (k := 3) rfl (by rw [ey10]; rfl) (by decide) rfl (fun ls hl => ?_)
        refine lv_goto (tgt := 39) hx hb dX1_atomsUpTo_66 (by decide) ?_
        exact ht _ _ _ hP hD hS (lv_sub hl [1, 2, 3, 0] rfl)
      · replace ht := ht.2 c9
        refine lv_iload_n hx hb dX1_atomsUpTo_57 rfl (lv_at hl 2 rfl) ?_
        refine lv_iconst (v := 1) hx hb dX1_atomsUpTo_58 (by decide) ?_
        refine lv_iload_n hx hb dX1_atomsUpTo_59 rfl (lv_at hl 3 rfl) ?_
        refine lv_ishl hx hb dX1_atomsUpTo_60 ?_
        refine lv_ior hx hb dX1_atomsUpTo_61 ?_
        refine lv_topi (fun y11 ey11 => ?_)
        replace ht := ht y11 ey11
        refine lv_istore_n (lv' := [(2, .int y11), (0, .ref h0), (1, .int p1), (3, .int x3)]) hx hb dX1_atomsUpTo_62 rfl hl (by decide) rfl (fun ls hl => ?_)
        obtain ⟨y12, ey12⟩ : ∃ y : Int32, y = x3 + 1 := ⟨_, rfl⟩
        replace ht := ht y12 ey12
        refine lv_iinc (v := y12) (lv' := [(3, .int y12), (2, .int y11), (0, .ref h0), (1, .int p1)]) hx hb dX1_atomsUpTo_63 hl (k := 3) rfl (by rw [ey12]; rfl) (by decide) rfl (fun ls hl => ?_)
        refine lv_goto (tgt := 39) hx hb dX1_atomsUpTo_66 (by decide) ?_
        exact ht _ _ _ hP hD hS (lv_sub hl [2, 3, 1, 0] rfl)
  · intro ht
    refine lv_iconst (v := 0) hx hb dX1_atomsUpTo_0 (by decide) ?_
    refine lv_istore_n (lv' := [(2, .int 0), (0, .ref h0), (1, .int p1)]) hx hb dX1_atomsUpTo_1 rfl hl (by decide) rfl (fun ls hl => ?_)
    refine lv_iconst (v := 0) hx hb dX1_atomsUpTo_2 (by decide) ?_
    refine lv_istore_n (lv' := [(3, .int 0), (2, .int 0), (0, .ref h0), (1, .int p1)]) hx hb dX1_atomsUpTo_3 rfl hl (by decide) rfl (fun ls hl => ?_)
    exact ht _ _ _ hP hD hS (lv_sub hl [2, 3, 1, 0] rfl)
set_option maxHeartbeats 4000000 in
set_option maxRecDepth 100000 in
theorem c_X1_nodesAmong (l : Launch) (dC : Nat → ClassId) (dI : Nat → Nat → Nat) (cI cJ : ClassId) (h0 : Nat) (afbi : Nat) (afab : Nat) (afhd : Nat) (afin : Nat) (afjo : Nat) (afnu : Nat) (afre : Nat) (afse : Nat) (nv : Int32) (na : Int32) (fnu : Nat → Int32) (sz : Nat) (p1 : Int64) (post : Int64 → Prop) (hsp : S_X1_nodesAmong p1 nv fnu post) : Met l yX1_nodesAmong wsX1_nodesAmong ({ frames := 1, cells := 0, slots := 0, locals := 22 }) (va_Pc [.ref h0, .long p1] (fun U => U.heap.size = sz ∧ va_P (dC, dI) vwCl [(h0, .inr (1, [.int nv, .int na, .ref afbi, .ref afab, .ref afhd, .ref afin, .ref afjo, .ref afnu, .ref afre, .ref afse])), (afnu, .inl (cI, 60, .inl fnu))] U.heap ∧ va_K (dC, dI) vwCl [(cI, .int), (cJ, .long)] U ∧ va_D (fun _ => True) [(h0, .inr (1, [.int nv, .int na, .ref afbi, .ref afab, .ref afhd, .ref afin, .ref afjo, .ref afnu, .ref afre, .ref afse])), (afnu, .inl (cI, 60, .inl fnu))] ∧ nw U)) (va_Ql (fun (r : Int64) (u : Unit) => post r) (fun (u : Unit) (t : State) => va_P (dC, dI) vwCl [(h0, .inr (1, [.int nv, .int na, .ref afbi, .ref afab, .ref afhd, .ref afin, .ref afjo, .ref afnu, .ref afre, .ref afse])), (afnu, .inl (cI, 60, .inl fnu))] t.heap ∧ va_K (dC, dI) vwCl [(cI, .int), (cJ, .long)] t ∧ va_D (va_A [(h0, .inr (1, [.int nv, .int na, .ref afbi, .ref afab, .ref afhd, .ref afin, .ref afjo, .ref afnu, .ref afre, .ref afse])), (afnu, .inl (cI, 60, .inl fnu))] sz) [(h0, .inr (1, [.int nv, .int na, .ref afbi, .ref afab, .ref afhd, .ref afin, .ref afjo, .ref afnu, .ref afre, .ref afse])), (afnu, .inl (cI, 60, .inl fnu))]) (va_A [(h0, .inr (1, [.int nv, .int na, .ref afbi, .ref afab, .ref afhd, .ref afin, .ref afjo, .ref afnu, .ref afre, .ref afse])), (afnu, .inl (cI, 60, .inl fnu))] sz)) 0 0 (va_A [(h0, .inr (1, [.int nv, .int na, .ref afbi, .ref afab, .ref afhd, .ref afin, .ref afjo, .ref afnu, .ref afre, .ref afse])), (afnu, .inl (cI, 60, .inl fnu))] sz) := by
  refine Met.ofW (cc := cX1_nodesAmong) (maxL := 6) (ret := (some .long)) (by decide) rfl ?_
  intro p e s m args below meth c s₁ B hml hv
  obtain ⟨rfl, hsz, hP, hK, hD0, hN⟩ := hv
  have hx := B.exec
  have hb := B.bytes
  have hr := B.returns
  have hts := atoms_spec (ws := wsX1_nodesAmong) B.pre
  have hown : s.vm.findClass RX1 = some m.cls := findClass_of_methodNamed B.named
  have hlocks := B.notSynchronized
  subst hsz
  have hD := hD0.self (sz := s.heap.size)
  generalize hAe : va_A [(h0, .inr (1, [.int nv, .int na, .ref afbi, .ref afab, .ref afhd, .ref afin, .ref afjo, .ref afnu, .ref afre, .ref afse])), (afnu, .inl (cI, 60, .inl fnu))] s.heap.size = A at hD ⊢
  have hA : ∀ q : Nat, s.heap.size ≤ q → A q := fun q h => by rw [← hAe]; exact Or.inr h
  have hS : va_S A s.heap s.heap [] := va_S.rf
  have hl := lv_entry ([.ref h0, .long p1]) (n := 6) (Nat.le_of_ble_eq_true rfl)
  rw [lg_entry_eq]
  generalize (lg_sl ([.ref h0, .long p1]) ++ List.replicate (6 - (lg_sl ([.ref h0, .long p1])).length) Slot.unset).toArray = ls at hl ⊢
  replace hl : lv_has ls 6 [(0, .ref h0), (1, .long p1)] := hl
  have hw0 := (show ∀ w ∈ wsX10, w ∈ wsX1_nodesAmong from by decide +kernel)
  have hw1 := hts (.fieldLink RX1 9 "EffectNets$Net" "variables" "I") (by decide +kernel)
  have hw2 := hts (.initialized RX3) (by decide +kernel)
  have hw3 := hts (.static yX3_contains) (by decide +kernel)
  have hw4 := hts (.fieldLink RX1 35 "EffectNets$Net" "numbers" "[I") (by decide +kernel)
  have hw5 := hts (.static yX3_bit) (by decide +kernel)
  refine hsp _ (fun (x3 : Int64) (x5 : Int32) => ∀ (H : Heap) (locs : List Loc) (ls : Array Slot), va_P (dC, dI) vwCl [(h0, .inr (1, [.int nv, .int na, .ref afbi, .ref afab, .ref afhd, .ref afin, .ref afjo, .ref afnu, .ref afre, .ref afse])), (afnu, .inl (cI, 60, .inl fnu))] H → va_D A [(h0, .inr (1, [.int nv, .int na, .ref afbi, .ref afab, .ref afhd, .ref afin, .ref afjo, .ref afnu, .ref afre, .ref afse])), (afnu, .inl (cI, 60, .inl fnu))] → va_S A s.heap H locs → lv_has ls 6 [(0, .ref h0), (1, .long p1), (3, .long x3), (5, .int x5)] → W p l e (headSpec wsX1_nodesAmong ({ frames := 1, cells := 0, slots := 0, locals := 22 })).room s m (List.toArray [.ref h0, .long p1]) below meth c H locs 0 0 (MQ below (va_Ql (fun (r : Int64) (u : Unit) => post r) (fun (u : Unit) (t : State) => va_P (dC, dI) vwCl [(h0, .inr (1, [.int nv, .int na, .ref afbi, .ref afab, .ref afhd, .ref afin, .ref afjo, .ref afnu, .ref afre, .ref afse])), (afnu, .inl (cI, 60, .inl fnu))] t.heap ∧ va_K (dC, dI) vwCl [(cI, .int), (cJ, .long)] t ∧ va_D A [(h0, .inr (1, [.int nv, .int na, .ref afbi, .ref afab, .ref afhd, .ref afin, .ref afjo, .ref afnu, .ref afre, .ref afse])), (afnu, .inl (cI, 60, .inl fnu))]) A) (List.toArray [.ref h0, .long p1]) s 0 0 A) (F0 m 5 ls [])) ?_ ?_
  · intro x3 x5 ht H locs ls hP hD hS hl
    refine lv_iload hx hb dX1_nodesAmong_5 (lv_at hl 3 rfl) ?_
    refine lv_aload_n hx hb dX1_nodesAmong_7 rfl (lv_at hl 0 rfl) ?_
    refine va_get (D := (dC, dI)) (ci := 1) (v := .int nv) (C := RX1) (T := TX1) (N := 10) hx hb hts hw0 hown hK hP 0 rfl rfl 0 (by decide) hw1 (fun _ h9 => h9) rfl dX1_nodesAmong_8 ?_
    refine lv_icmp_ge (tgt := 42) hx hb dX1_nodesAmong_11 (by decide) (fun c1 => ?_) (fun c1 => ?_)
    · replace ht := ht.1 c1
      refine lv_lload_n hx hb dX1_nodesAmong_42 rfl (lv_at hl 2 rfl) ?_
      have hP9 : va_P (dC, dI) vwCl [(h0, .inr (1, [.int nv, .int na, .ref afbi, .ref afab, .ref afhd, .ref afin, .ref afjo, .ref afnu, .ref afre, .ref afse])), (afnu, .inl (cI, 60, .inl fnu))] _ := hP
      have hD9 : va_D A [(h0, .inr (1, [.int nv, .int na, .ref afbi, .ref afab, .ref afhd, .ref afin, .ref afjo, .ref afnu, .ref afre, .ref afse])), (afnu, .inl (cI, 60, .inl fnu))] := hD
      exact W.lret (v := x3) hx hb hr (fun t ht9 hW => ⟨⟨x3, (), rfl, ht, by rw [ht9]; exact hP9, va_K.moved hW.alike hK, hD9⟩, hS.F ht9⟩) hS.2.2 dX1_nodesAmong_43
    · replace ht := ht.2 c1
      refine lv_lload_n hx hb dX1_nodesAmong_14 rfl (lv_at hl 1 rfl) ?_
      refine lv_iload hx hb dX1_nodesAmong_15 (lv_at hl 3 rfl) ?_
      have hPc := hP.sub (ws' := []) [] rfl
      have hDc := hD.sub (ws' := []) [] (by decide) rfl
      have hFc := va_free (wc := []) hD hS hA [] rfl
      refine va_calli (va_runSN (As := [.long p1, .int x5]) (rest := []) ⟨hx, hb, hml, hown, hts⟩ (c_X3_contains l dC dI cI cJ  H.size p1 x5 _ ht) ⟨va_cnB 2 hts gX1_nodesAmong_X3_contains_n71 rfl rfl rfl hN.2.2.2.2.1 hw2 (by decide +kernel) ⟨Nat.le_of_ble_eq_true rfl, Nat.le_of_ble_eq_true rfl⟩, hw3, trivial⟩ ⟨fun a U g mk q => by obtain ⟨q0, q1, qP, qK, qD, qN⟩ := q; exact ⟨q0, q1, qP, va_K.moved (u := U) (U := U.calling g mk a) (Vm.Alike.refl U.vm) qK, qD, nw_same rfl qN⟩, fun U hU hW => ⟨rfl, by rw [hU], by rw [hU]; exact hPc, va_K.moved hW.alike hK, hDc.weaken (fun _ _ _ _ => trivial), nw_warm hW hN⟩⟩ rfl rfl hl.1 rfl (lv_room (Nat.le_of_ble_eq_true rfl)) dX1_nodesAmong_17 ⟨Nat.le_of_ble_eq_true rfl, Nat.le_of_ble_eq_true rfl⟩) hS (fun q _ h => hFc q h) hFc (fun r2 u t H1 locs ht9 hvm hw hB hz1 hk1 hS => ?_)
      obtain ⟨hP1, hK1, hD1⟩ := hB
      rw [ht9] at hP1
      try dsimp only at hw
      replace ht := hw
      obtain ⟨hP, hD⟩ := va_join (wr := [(h0, .inr (1, [.int nv, .int na, .ref afbi, .ref afab, .ref afhd, .ref afin, .ref afjo, .ref afnu, .ref afre, .ref afse])), (afnu, .inl (cI, 60, .inl fnu))]) (w1 := []) hP hD [] [0, 1] rfl rfl (by decide) (by decide) hk1 hFc hP1 hD1
      generalize H1 = H at hP hS ⊢
      replace hP : va_P (dC, dI) vwCl [(h0, .inr (1, [.int nv, .int na, .ref afbi, .ref afab, .ref afhd, .ref afin, .ref afjo, .ref afnu, .ref afre, .ref afse])), (afnu, .inl (cI, 60, .inl fnu))] H := hP
      replace hD : va_D A [(h0, .inr (1, [.int nv, .int na, .ref afbi, .ref afab, .ref afhd, .ref afin, .ref afjo, .ref afnu, .ref afre, .ref afse])), (afnu, .inl (cI, 60, .inl fnu))] := hD
      refine lv_if_eq (tgt := 36) hx hb dX1_nodesAmong_20 (by decide) (fun c3 => ?_) (fun c3 => ?_)
      · replace ht := ht.1 c3
        obtain ⟨y4, ey4⟩ : ∃ y : Int32, y = x5 + 1 := ⟨_, rfl⟩
        replace ht := ht y4 ey4
        refine lv_iinc (v := y4) (lv' := [(5, .int y4), (0, .ref h0), (1, .long p1), (3, .long x3)]) hx hb dX1_nodesAmong_36 hl (k := 3) rfl (by rw [ey4]; rfl) (by decide) rfl (fun ls hl => ?_)
        refine lv_goto (tgt := 5) hx hb dX1_nodesAmong_39 (by decide) ?_
        exact ht _ _ _ hP hD hS (lv_sub hl [1, 2, 3, 0] rfl)
      · replace ht := ht.2 c3
        refine lv_lload_n hx hb dX1_nodesAmong_23 rfl (lv_at hl 2 rfl) ?_
        refine lv_aload_n hx hb dX1_nodesAmong_24 rfl (lv_at hl 0 rfl) ?_
        refine va_get (D := (dC, dI)) (ci := 1) (v := .ref afnu) (C := RX1) (T := TX1) (N := 10) hx hb hts hw0 hown hK hP 0 rfl rfl 7 (by decide) hw4 (fun _ h9 => h9) rfl dX1_nodesAmong_25 ?_
        refine lv_iload hx hb dX1_nodesAmong_28 (lv_at hl 3 rfl) ?_
        obtain ⟨i5, ht⟩ := ht
        refine va_iald hx hb hK hP 1 0 rfl rfl i5 dX1_nodesAmong_30 ?_
        have hPc := hP.sub (ws' := []) [] rfl
        have hDc := hD.sub (ws' := []) [] (by decide) rfl
        have hFc := va_free (wc := []) hD hS hA [] rfl
        refine va_calll (va_runSN (As := [.int (fnu x5.toNatClampNeg)]) (rest := [.long x3]) ⟨hx, hb, hml, hown, hts⟩ (c_X3_bit l dC dI cI cJ  H.size (fnu x5.toNatClampNeg) _ ht) ⟨va_cnB 1 hts gX1_nodesAmong_X3_bit_n50 rfl rfl rfl hN.2.2.2.1 hw2 (by decide +kernel) ⟨Nat.le_of_ble_eq_true rfl, Nat.le_of_ble_eq_true rfl⟩, hw5, trivial⟩ ⟨fun a U g mk q => by obtain ⟨q0, q1, qP, qK, qD, qN⟩ := q; exact ⟨q0, q1, qP, va_K.moved (u := U) (U := U.calling g mk a) (Vm.Alike.refl U.vm) qK, qD, nw_same rfl qN⟩, fun U hU hW => ⟨rfl, by rw [hU], by rw [hU]; exact hPc, va_K.moved hW.alike hK, hDc.weaken (fun _ _ _ _ => trivial), nw_warm hW hN⟩⟩ rfl rfl hl.1 rfl (lv_room (Nat.le_of_ble_eq_true rfl)) dX1_nodesAmong_31 ⟨Nat.le_of_ble_eq_true rfl, Nat.le_of_ble_eq_true rfl⟩) hS (fun q _ h => hFc q h) hFc (fun r6 u t H1 locs ht9 hvm hw hB hz1 hk1 hS => ?_)
        obtain ⟨hP1, hK1, hD1⟩ := hB
        rw [ht9] at hP1
        try dsimp only at hw
        replace ht := hw
        obtain ⟨hP, hD⟩ := va_join (wr := [(h0, .inr (1, [.int nv, .int na, .ref afbi, .ref afab, .ref afhd, .ref afin, .ref afjo, .ref afnu, .ref afre, .ref afse])), (afnu, .inl (cI, 60, .inl fnu))]) (w1 := []) hP hD [] [0, 1] rfl rfl (by decide) (by decide) hk1 hFc hP1 hD1
        generalize H1 = H at hP hS ⊢
        replace hP : va_P (dC, dI) vwCl [(h0, .inr (1, [.int nv, .int na, .ref afbi, .ref afab, .ref afhd, .ref afin, .ref afjo, .ref afnu, .ref afre, .ref afse])), (afnu, .inl (cI, 60, .inl fnu))] H := hP
        replace hD : va_D A [(h0, .inr (1, [.int nv, .int na, .ref afbi, .ref afab, .ref afhd, .ref afin, .ref afjo, .ref afnu, .ref afre, .ref afse])), (afnu, .inl (cI, 60, .inl fnu))] := hD
        refine lv_lor hx hb dX1_nodesAmong_34 ?_
        refine lv_topl (fun y7 ey7 => ?_)
        replace ht := ht y7 ey7
        refine lv_lstore_n (lv' := [(3, .long y7), (0, .ref h0), (1, .long p1), (5, .int x5)]) hx hb dX1_nodesAmong_35 rfl hl (by decide) rfl (fun ls hl => ?_)
        obtain ⟨y8, ey8⟩ : ∃ y : Int32, y = x5 + 1 := ⟨_, rfl⟩
        replace ht := ht y8 ey8
        refine lv_iinc (v := y8) (lv' := [(5, .int y8), (3, .long y7), (0, .ref h0), (1, .long p1)]) hx hb dX1_nodesAmong_36 hl (k := 3) rfl (by rw [ey8]; rfl) (by decide) rfl (fun ls hl => ?_)
        refine lv_goto (tgt := 5) hx hb dX1_nodesAmong_39 (by decide) ?_
        exact ht _ _ _ hP hD hS (lv_sub hl [2, 3, 1, 0] rfl)
  · intro ht
    refine lv_lconst (v := 0) hx hb dX1_nodesAmong_0 rfl ?_
    refine lv_lstore_n (lv' := [(3, .long 0), (0, .ref h0), (1, .long p1)]) hx hb dX1_nodesAmong_1 rfl hl (by decide) rfl (fun ls hl => ?_)
    refine lv_iconst (v := 0) hx hb dX1_nodesAmong_2 (by decide) ?_
    refine lv_istore (lv' := [(5, .int 0), (3, .long 0), (0, .ref h0), (1, .long p1)]) hx hb dX1_nodesAmong_3 hl (by decide) rfl (fun ls hl => ?_)
    exact ht _ _ _ hP hD hS (lv_sub hl [2, 3, 1, 0] rfl)
set_option maxHeartbeats 4000000 in
set_option maxRecDepth 100000 in
theorem c_X1_hadByNodes (l : Launch) (dC : Nat → ClassId) (dI : Nat → Nat → Nat) (cI cJ : ClassId) (h0 : Nat) (afbi : Nat) (afab : Nat) (afhd : Nat) (afin : Nat) (afjo : Nat) (afnu : Nat) (afre : Nat) (afse : Nat) (nv : Int32) (na : Int32) (fhd : Nat → Int32) (fnu : Nat → Int32) (sz : Nat) (p1 : Int64) (post : Int32 → Prop) (hsp : S_X1_hadByNodes p1 nv fhd fnu post) : Met l yX1_hadByNodes wsX1_hadByNodes ({ frames := 1, cells := 0, slots := 0, locals := 22 }) (va_Pc [.ref h0, .long p1] (fun U => U.heap.size = sz ∧ va_P (dC, dI) vwCl [(h0, .inr (1, [.int nv, .int na, .ref afbi, .ref afab, .ref afhd, .ref afin, .ref afjo, .ref afnu, .ref afre, .ref afse])), (afhd, .inl (cI, 60, .inl fhd)), (afnu, .inl (cI, 60, .inl fnu))] U.heap ∧ va_K (dC, dI) vwCl [(cI, .int), (cJ, .long)] U ∧ va_D (fun _ => True) [(h0, .inr (1, [.int nv, .int na, .ref afbi, .ref afab, .ref afhd, .ref afin, .ref afjo, .ref afnu, .ref afre, .ref afse])), (afhd, .inl (cI, 60, .inl fhd)), (afnu, .inl (cI, 60, .inl fnu))] ∧ nw U)) (va_Qi (fun (r : Int32) (u : Unit) => post r) (fun (u : Unit) (t : State) => va_P (dC, dI) vwCl [(h0, .inr (1, [.int nv, .int na, .ref afbi, .ref afab, .ref afhd, .ref afin, .ref afjo, .ref afnu, .ref afre, .ref afse])), (afhd, .inl (cI, 60, .inl fhd)), (afnu, .inl (cI, 60, .inl fnu))] t.heap ∧ va_K (dC, dI) vwCl [(cI, .int), (cJ, .long)] t ∧ va_D (va_A [(h0, .inr (1, [.int nv, .int na, .ref afbi, .ref afab, .ref afhd, .ref afin, .ref afjo, .ref afnu, .ref afre, .ref afse])), (afhd, .inl (cI, 60, .inl fhd)), (afnu, .inl (cI, 60, .inl fnu))] sz) [(h0, .inr (1, [.int nv, .int na, .ref afbi, .ref afab, .ref afhd, .ref afin, .ref afjo, .ref afnu, .ref afre, .ref afse])), (afhd, .inl (cI, 60, .inl fhd)), (afnu, .inl (cI, 60, .inl fnu))]) (va_A [(h0, .inr (1, [.int nv, .int na, .ref afbi, .ref afab, .ref afhd, .ref afin, .ref afjo, .ref afnu, .ref afre, .ref afse])), (afhd, .inl (cI, 60, .inl fhd)), (afnu, .inl (cI, 60, .inl fnu))] sz)) 0 0 (va_A [(h0, .inr (1, [.int nv, .int na, .ref afbi, .ref afab, .ref afhd, .ref afin, .ref afjo, .ref afnu, .ref afre, .ref afse])), (afhd, .inl (cI, 60, .inl fhd)), (afnu, .inl (cI, 60, .inl fnu))] sz) := by
  refine Met.ofW (cc := cX1_hadByNodes) (maxL := 5) (ret := (some .int)) (by decide) rfl ?_
  intro p e s m args below meth c s₁ B hml hv
  obtain ⟨rfl, hsz, hP, hK, hD0, hN⟩ := hv
  have hx := B.exec
  have hb := B.bytes
  have hr := B.returns
  have hts := atoms_spec (ws := wsX1_hadByNodes) B.pre
  have hown : s.vm.findClass RX1 = some m.cls := findClass_of_methodNamed B.named
  have hlocks := B.notSynchronized
  subst hsz
  have hD := hD0.self (sz := s.heap.size)
  generalize hAe : va_A [(h0, .inr (1, [.int nv, .int na, .ref afbi, .ref afab, .ref afhd, .ref afin, .ref afjo, .ref afnu, .ref afre, .ref afse])), (afhd, .inl (cI, 60, .inl fhd)), (afnu, .inl (cI, 60, .inl fnu))] s.heap.size = A at hD ⊢
  have hA : ∀ q : Nat, s.heap.size ≤ q → A q := fun q h => by rw [← hAe]; exact Or.inr h
  have hS : va_S A s.heap s.heap [] := va_S.rf
  have hl := lv_entry ([.ref h0, .long p1]) (n := 5) (Nat.le_of_ble_eq_true rfl)
  rw [lg_entry_eq]
  generalize (lg_sl ([.ref h0, .long p1]) ++ List.replicate (5 - (lg_sl ([.ref h0, .long p1])).length) Slot.unset).toArray = ls at hl ⊢
  replace hl : lv_has ls 5 [(0, .ref h0), (1, .long p1)] := hl
  have hw0 := (show ∀ w ∈ wsX10, w ∈ wsX1_hadByNodes from by decide +kernel)
  have hw1 := hts (.fieldLink RX1 9 "EffectNets$Net" "variables" "I") (by decide +kernel)
  have hw2 := hts (.fieldLink RX1 35 "EffectNets$Net" "numbers" "[I") (by decide +kernel)
  have hw3 := hts (.initialized RX3) (by decide +kernel)
  have hw4 := hts (.static yX3_contains) (by decide +kernel)
  have hw5 := hts (.fieldLink RX1 25 "EffectNets$Net" "had" "[I") (by decide +kernel)
  refine hsp _ (fun (x3 : Int32) (x4 : Int32) => ∀ (H : Heap) (locs : List Loc) (ls : Array Slot), va_P (dC, dI) vwCl [(h0, .inr (1, [.int nv, .int na, .ref afbi, .ref afab, .ref afhd, .ref afin, .ref afjo, .ref afnu, .ref afre, .ref afse])), (afhd, .inl (cI, 60, .inl fhd)), (afnu, .inl (cI, 60, .inl fnu))] H → va_D A [(h0, .inr (1, [.int nv, .int na, .ref afbi, .ref afab, .ref afhd, .ref afin, .ref afjo, .ref afnu, .ref afre, .ref afse])), (afhd, .inl (cI, 60, .inl fhd)), (afnu, .inl (cI, 60, .inl fnu))] → va_S A s.heap H locs → lv_has ls 5 [(0, .ref h0), (1, .long p1), (3, .int x3), (4, .int x4)] → W p l e (headSpec wsX1_hadByNodes ({ frames := 1, cells := 0, slots := 0, locals := 22 })).room s m (List.toArray [.ref h0, .long p1]) below meth c H locs 0 0 (MQ below (va_Qi (fun (r : Int32) (u : Unit) => post r) (fun (u : Unit) (t : State) => va_P (dC, dI) vwCl [(h0, .inr (1, [.int nv, .int na, .ref afbi, .ref afab, .ref afhd, .ref afin, .ref afjo, .ref afnu, .ref afre, .ref afse])), (afhd, .inl (cI, 60, .inl fhd)), (afnu, .inl (cI, 60, .inl fnu))] t.heap ∧ va_K (dC, dI) vwCl [(cI, .int), (cJ, .long)] t ∧ va_D A [(h0, .inr (1, [.int nv, .int na, .ref afbi, .ref afab, .ref afhd, .ref afin, .ref afjo, .ref afnu, .ref afre, .ref afse])), (afhd, .inl (cI, 60, .inl fhd)), (afnu, .inl (cI, 60, .inl fnu))]) A) (List.toArray [.ref h0, .long p1]) s 0 0 A) (F0 m 5 ls [])) ?_ ?_
  · intro x3 x4 ht H locs ls hP hD hS hl
    refine lv_iload hx hb dX1_hadByNodes_5 (lv_at hl 3 rfl) ?_
    refine lv_aload_n hx hb dX1_hadByNodes_7 rfl (lv_at hl 0 rfl) ?_
    refine va_get (D := (dC, dI)) (ci := 1) (v := .int nv) (C := RX1) (T := TX1) (N := 10) hx hb hts hw0 hown hK hP 0 rfl rfl 0 (by decide) hw1 (fun _ h9 => h9) rfl dX1_hadByNodes_8 ?_
    refine lv_icmp_ge (tgt := 44) hx hb dX1_hadByNodes_11 (by decide) (fun c1 => ?_) (fun c1 => ?_)
    · replace ht := ht.1 c1
      refine lv_iload_n hx hb dX1_hadByNodes_44 rfl (lv_at hl 2 rfl) ?_
      have hP9 : va_P (dC, dI) vwCl [(h0, .inr (1, [.int nv, .int na, .ref afbi, .ref afab, .ref afhd, .ref afin, .ref afjo, .ref afnu, .ref afre, .ref afse])), (afhd, .inl (cI, 60, .inl fhd)), (afnu, .inl (cI, 60, .inl fnu))] _ := hP
      have hD9 : va_D A [(h0, .inr (1, [.int nv, .int na, .ref afbi, .ref afab, .ref afhd, .ref afin, .ref afjo, .ref afnu, .ref afre, .ref afse])), (afhd, .inl (cI, 60, .inl fhd)), (afnu, .inl (cI, 60, .inl fnu))] := hD
      exact W.iret (v := x3) hx hb hr (fun t ht9 hW => ⟨⟨x3, (), rfl, ht, by rw [ht9]; exact hP9, va_K.moved hW.alike hK, hD9⟩, hS.F ht9⟩) hS.2.2 dX1_hadByNodes_45
    · replace ht := ht.2 c1
      refine lv_lload_n hx hb dX1_hadByNodes_14 rfl (lv_at hl 1 rfl) ?_
      refine lv_aload_n hx hb dX1_hadByNodes_15 rfl (lv_at hl 0 rfl) ?_
      refine va_get (D := (dC, dI)) (ci := 1) (v := .ref afnu) (C := RX1) (T := TX1) (N := 10) hx hb hts hw0 hown hK hP 0 rfl rfl 7 (by decide) hw2 (fun _ h9 => h9) rfl dX1_hadByNodes_16 ?_
      refine lv_iload hx hb dX1_hadByNodes_19 (lv_at hl 3 rfl) ?_
      obtain ⟨i2, ht⟩ := ht
      refine va_iald hx hb hK hP 2 0 rfl rfl i2 dX1_hadByNodes_21 ?_
      have hPc := hP.sub (ws' := []) [] rfl
      have hDc := hD.sub (ws' := []) [] (by decide) rfl
      have hFc := va_free (wc := []) hD hS hA [] rfl
      refine va_calli (va_runSN (As := [.long p1, .int (fnu x4.toNatClampNeg)]) (rest := []) ⟨hx, hb, hml, hown, hts⟩ (c_X3_contains l dC dI cI cJ  H.size p1 (fnu x4.toNatClampNeg) _ ht) ⟨va_cnB 2 hts gX1_hadByNodes_X3_contains_n71 rfl rfl rfl hN.2.2.2.2.1 hw3 (by decide +kernel) ⟨Nat.le_of_ble_eq_true rfl, Nat.le_of_ble_eq_true rfl⟩, hw4, trivial⟩ ⟨fun a U g mk q => by obtain ⟨q0, q1, qP, qK, qD, qN⟩ := q; exact ⟨q0, q1, qP, va_K.moved (u := U) (U := U.calling g mk a) (Vm.Alike.refl U.vm) qK, qD, nw_same rfl qN⟩, fun U hU hW => ⟨rfl, by rw [hU], by rw [hU]; exact hPc, va_K.moved hW.alike hK, hDc.weaken (fun _ _ _ _ => trivial), nw_warm hW hN⟩⟩ rfl rfl hl.1 rfl (lv_room (Nat.le_of_ble_eq_true rfl)) dX1_hadByNodes_22 ⟨Nat.le_of_ble_eq_true rfl, Nat.le_of_ble_eq_true rfl⟩) hS (fun q _ h => hFc q h) hFc (fun r3 u t H1 locs ht9 hvm hw hB hz1 hk1 hS => ?_)
      obtain ⟨hP1, hK1, hD1⟩ := hB
      rw [ht9] at hP1
      try dsimp only at hw
      replace ht := hw
      obtain ⟨hP, hD⟩ := va_join (wr := [(h0, .inr (1, [.int nv, .int na, .ref afbi, .ref afab, .ref afhd, .ref afin, .ref afjo, .ref afnu, .ref afre, .ref afse])), (afhd, .inl (cI, 60, .inl fhd)), (afnu, .inl (cI, 60, .inl fnu))]) (w1 := []) hP hD [] [0, 1, 2] rfl rfl (by decide) (by decide) hk1 hFc hP1 hD1
      generalize H1 = H at hP hS ⊢
      replace hP : va_P (dC, dI) vwCl [(h0, .inr (1, [.int nv, .int na, .ref afbi, .ref afab, .ref afhd, .ref afin, .ref afjo, .ref afnu, .ref afre, .ref afse])), (afhd, .inl (cI, 60, .inl fhd)), (afnu, .inl (cI, 60, .inl fnu))] H := hP
      replace hD : va_D A [(h0, .inr (1, [.int nv, .int na, .ref afbi, .ref afab, .ref afhd, .ref afin, .ref afjo, .ref afnu, .ref afre, .ref afse])), (afhd, .inl (cI, 60, .inl fhd)), (afnu, .inl (cI, 60, .inl fnu))] := hD
      refine lv_if_eq (tgt := 38) hx hb dX1_hadByNodes_25 (by decide) (fun c4 => ?_) (fun c4 => ?_)
      · replace ht := ht.1 c4
        obtain ⟨y5, ey5⟩ : ∃ y : Int32, y = x4 + 1 := ⟨_, rfl⟩
        replace ht := ht y5 ey5
        refine lv_iinc (v := y5) (lv' := [(4, .int y5), (0, .ref h0), (1, .long p1), (3, .int x3)]) hx hb dX1_hadByNodes_38 hl (k := 3) rfl (by rw [ey5]; rfl) (by decide) rfl (fun ls hl => ?_)
        refine lv_goto (tgt := 5) hx hb dX1_hadByNodes_41 (by decide) ?_
        exact ht _ _ _ hP hD hS (lv_sub hl [1, 2, 3, 0] rfl)
      · replace ht := ht.2 c4
        refine lv_iload_n hx hb dX1_hadByNodes_28 rfl (lv_at hl 2 rfl) ?_
        refine lv_aload_n hx hb dX1_hadByNodes_29 rfl (lv_at hl 0 rfl) ?_
        refine va_get (D := (dC, dI)) (ci := 1) (v := .ref afhd) (C := RX1) (T := TX1) (N := 10) hx hb hts hw0 hown hK hP 0 rfl rfl 4 (by decide) hw5 (fun _ h9 => h9) rfl dX1_hadByNodes_30 ?_
        refine lv_iload hx hb dX1_hadByNodes_33 (lv_at hl 3 rfl) ?_
        refine va_iald hx hb hK hP 1 0 rfl rfl i2 dX1_hadByNodes_35 ?_
        refine lv_ior hx hb dX1_hadByNodes_36 ?_
        refine lv_topi (fun y6 ey6 => ?_)
        replace ht := ht y6 ey6
        refine lv_istore_n (lv' := [(3, .int y6), (0, .ref h0), (1, .long p1), (4, .int x4)]) hx hb dX1_hadByNodes_37 rfl hl (by decide) rfl (fun ls hl => ?_)
        obtain ⟨y7, ey7⟩ : ∃ y : Int32, y = x4 + 1 := ⟨_, rfl⟩
        replace ht := ht y7 ey7
        refine lv_iinc (v := y7) (lv' := [(4, .int y7), (3, .int y6), (0, .ref h0), (1, .long p1)]) hx hb dX1_hadByNodes_38 hl (k := 3) rfl (by rw [ey7]; rfl) (by decide) rfl (fun ls hl => ?_)
        refine lv_goto (tgt := 5) hx hb dX1_hadByNodes_41 (by decide) ?_
        exact ht _ _ _ hP hD hS (lv_sub hl [2, 3, 1, 0] rfl)
  · intro ht
    refine lv_iconst (v := 0) hx hb dX1_hadByNodes_0 (by decide) ?_
    refine lv_istore_n (lv' := [(3, .int 0), (0, .ref h0), (1, .long p1)]) hx hb dX1_hadByNodes_1 rfl hl (by decide) rfl (fun ls hl => ?_)
    refine lv_iconst (v := 0) hx hb dX1_hadByNodes_2 (by decide) ?_
    refine lv_istore (lv' := [(4, .int 0), (3, .int 0), (0, .ref h0), (1, .long p1)]) hx hb dX1_hadByNodes_3 hl (by decide) rfl (fun ls hl => ?_)
    exact ht _ _ _ hP hD hS (lv_sub hl [2, 3, 1, 0] rfl)
set_option maxHeartbeats 4000000 in
set_option maxRecDepth 100000 in
theorem c_X1_nodesIncludedByNode (l : Launch) (dC : Nat → ClassId) (dI : Nat → Nat → Nat) (cI cJ : ClassId) (h0 : Nat) (afbi : Nat) (afab : Nat) (afhd : Nat) (afin : Nat) (afjo : Nat) (afnu : Nat) (afre : Nat) (afse : Nat) (nv : Int32) (na : Int32) (fin : Nat → Int64) (fnu : Nat → Int32) (sz : Nat) (p1 : Int32) (post : Int64 → Prop) (hsp : S_X1_nodesIncludedByNode p1 nv fin fnu post) : Met l yX1_nodesIncludedByNode wsX1_nodesIncludedByNode ({ frames := 2, cells := 0, slots := 0, locals := 47 }) (va_Pc [.ref h0, .int p1] (fun U => U.heap.size = sz ∧ va_P (dC, dI) vwCl [(h0, .inr (1, [.int nv, .int na, .ref afbi, .ref afab, .ref afhd, .ref afin, .ref afjo, .ref afnu, .ref afre, .ref afse])), (afin, .inl (cJ, 60, .inr (.inl fin))), (afnu, .inl (cI, 60, .inl fnu))] U.heap ∧ va_K (dC, dI) vwCl [(cI, .int), (cJ, .long)] U ∧ va_D (fun _ => True) [(h0, .inr (1, [.int nv, .int na, .ref afbi, .ref afab, .ref afhd, .ref afin, .ref afjo, .ref afnu, .ref afre, .ref afse])), (afin, .inl (cJ, 60, .inr (.inl fin))), (afnu, .inl (cI, 60, .inl fnu))] ∧ nw U)) (va_Ql (fun (r : Int64) (u : Unit) => post r) (fun (u : Unit) (t : State) => va_P (dC, dI) vwCl [(h0, .inr (1, [.int nv, .int na, .ref afbi, .ref afab, .ref afhd, .ref afin, .ref afjo, .ref afnu, .ref afre, .ref afse])), (afin, .inl (cJ, 60, .inr (.inl fin))), (afnu, .inl (cI, 60, .inl fnu))] t.heap ∧ va_K (dC, dI) vwCl [(cI, .int), (cJ, .long)] t ∧ va_D (va_A [(h0, .inr (1, [.int nv, .int na, .ref afbi, .ref afab, .ref afhd, .ref afin, .ref afjo, .ref afnu, .ref afre, .ref afse])), (afin, .inl (cJ, 60, .inr (.inl fin))), (afnu, .inl (cI, 60, .inl fnu))] sz) [(h0, .inr (1, [.int nv, .int na, .ref afbi, .ref afab, .ref afhd, .ref afin, .ref afjo, .ref afnu, .ref afre, .ref afse])), (afin, .inl (cJ, 60, .inr (.inl fin))), (afnu, .inl (cI, 60, .inl fnu))]) (va_A [(h0, .inr (1, [.int nv, .int na, .ref afbi, .ref afab, .ref afhd, .ref afin, .ref afjo, .ref afnu, .ref afre, .ref afse])), (afin, .inl (cJ, 60, .inr (.inl fin))), (afnu, .inl (cI, 60, .inl fnu))] sz)) 0 0 (va_A [(h0, .inr (1, [.int nv, .int na, .ref afbi, .ref afab, .ref afhd, .ref afin, .ref afjo, .ref afnu, .ref afre, .ref afse])), (afin, .inl (cJ, 60, .inr (.inl fin))), (afnu, .inl (cI, 60, .inl fnu))] sz) := by
  refine Met.ofW (cc := cX1_nodesIncludedByNode) (maxL := 5) (ret := (some .long)) (by decide) rfl ?_
  intro p e s m args below meth c s₁ B hml hv
  obtain ⟨rfl, hsz, hP, hK, hD0, hN⟩ := hv
  have hx := B.exec
  have hb := B.bytes
  have hr := B.returns
  have hts := atoms_spec (ws := wsX1_nodesIncludedByNode) B.pre
  have hown : s.vm.findClass RX1 = some m.cls := findClass_of_methodNamed B.named
  have hlocks := B.notSynchronized
  subst hsz
  have hD := hD0.self (sz := s.heap.size)
  generalize hAe : va_A [(h0, .inr (1, [.int nv, .int na, .ref afbi, .ref afab, .ref afhd, .ref afin, .ref afjo, .ref afnu, .ref afre, .ref afse])), (afin, .inl (cJ, 60, .inr (.inl fin))), (afnu, .inl (cI, 60, .inl fnu))] s.heap.size = A at hD ⊢
  have hA : ∀ q : Nat, s.heap.size ≤ q → A q := fun q h => by rw [← hAe]; exact Or.inr h
  have hS : va_S A s.heap s.heap [] := va_S.rf
  have hl := lv_entry ([.ref h0, .int p1]) (n := 5) (Nat.le_of_ble_eq_true rfl)
  rw [lg_entry_eq]
  generalize (lg_sl ([.ref h0, .int p1]) ++ List.replicate (5 - (lg_sl ([.ref h0, .int p1])).length) Slot.unset).toArray = ls at hl ⊢
  replace hl : lv_has ls 5 [(0, .ref h0), (1, .int p1)] := hl
  have hw0 := (show ∀ w ∈ wsX10, w ∈ wsX1_nodesIncludedByNode from by decide +kernel)
  have hw1 := hts (.fieldLink RX1 9 "EffectNets$Net" "variables" "I") (by decide +kernel)
  have hw2 := hts (.fieldLink RX1 35 "EffectNets$Net" "numbers" "[I") (by decide +kernel)
  have hw3 := hts (.fieldLink RX1 28 "EffectNets$Net" "included" "[J") (by decide +kernel)
  refine hsp _ (fun (x2 : Int64) (x4 : Int32) => ∀ (H : Heap) (locs : List Loc) (ls : Array Slot), va_P (dC, dI) vwCl [(h0, .inr (1, [.int nv, .int na, .ref afbi, .ref afab, .ref afhd, .ref afin, .ref afjo, .ref afnu, .ref afre, .ref afse])), (afin, .inl (cJ, 60, .inr (.inl fin))), (afnu, .inl (cI, 60, .inl fnu))] H → va_D A [(h0, .inr (1, [.int nv, .int na, .ref afbi, .ref afab, .ref afhd, .ref afin, .ref afjo, .ref afnu, .ref afre, .ref afse])), (afin, .inl (cJ, 60, .inr (.inl fin))), (afnu, .inl (cI, 60, .inl fnu))] → va_S A s.heap H locs → lv_has ls 5 [(0, .ref h0), (1, .int p1), (2, .long x2), (4, .int x4)] → W p l e (headSpec wsX1_nodesIncludedByNode ({ frames := 2, cells := 0, slots := 0, locals := 47 })).room s m (List.toArray [.ref h0, .int p1]) below meth c H locs 0 0 (MQ below (va_Ql (fun (r : Int64) (u : Unit) => post r) (fun (u : Unit) (t : State) => va_P (dC, dI) vwCl [(h0, .inr (1, [.int nv, .int na, .ref afbi, .ref afab, .ref afhd, .ref afin, .ref afjo, .ref afnu, .ref afre, .ref afse])), (afin, .inl (cJ, 60, .inr (.inl fin))), (afnu, .inl (cI, 60, .inl fnu))] t.heap ∧ va_K (dC, dI) vwCl [(cI, .int), (cJ, .long)] t ∧ va_D A [(h0, .inr (1, [.int nv, .int na, .ref afbi, .ref afab, .ref afhd, .ref afin, .ref afjo, .ref afnu, .ref afre, .ref afse])), (afin, .inl (cJ, 60, .inr (.inl fin))), (afnu, .inl (cI, 60, .inl fnu))]) A) (List.toArray [.ref h0, .int p1]) s 0 0 A) (F0 m 5 ls [])) ?_ ?_
  · intro x2 x4 ht H locs ls hP hD hS hl
    refine lv_iload hx hb dX1_nodesIncludedByNode_5 (lv_at hl 3 rfl) ?_
    refine lv_aload_n hx hb dX1_nodesIncludedByNode_7 rfl (lv_at hl 0 rfl) ?_
    refine va_get (D := (dC, dI)) (ci := 1) (v := .int nv) (C := RX1) (T := TX1) (N := 10) hx hb hts hw0 hown hK hP 0 rfl rfl 0 (by decide) hw1 (fun _ h9 => h9) rfl dX1_nodesIncludedByNode_8 ?_
    refine lv_icmp_ge (tgt := 41) hx hb dX1_nodesIncludedByNode_11 (by decide) (fun c1 => ?_) (fun c1 => ?_)
    · replace ht := ht.1 c1
      refine lv_aload_n hx hb dX1_nodesIncludedByNode_41 rfl (lv_at hl 0 rfl) ?_
      refine lv_lload_n hx hb dX1_nodesIncludedByNode_42 rfl (lv_at hl 2 rfl) ?_
      have hPc := hP.sub (ws' := [(h0, .inr (1, [.int nv, .int na, .ref afbi, .ref afab, .ref afhd, .ref afin, .ref afjo, .ref afnu, .ref afre, .ref afse])), (afnu, .inl (cI, 60, .inl fnu))]) [0, 2] rfl
      have hDc := hD.sub (ws' := [(h0, .inr (1, [.int nv, .int na, .ref afbi, .ref afab, .ref afhd, .ref afin, .ref afjo, .ref afnu, .ref afre, .ref afse])), (afnu, .inl (cI, 60, .inl fnu))]) [0, 2] (by decide) rfl
      have hFc := va_free (wc := [(h0, .inr (1, [.int nv, .int na, .ref afbi, .ref afab, .ref afhd, .ref afin, .ref afjo, .ref afnu, .ref afre, .ref afse])), (afnu, .inl (cI, 60, .inl fnu))]) hD hS hA [0, 2] rfl
      refine va_calll (va_runV (As := [.long x2]) (rest := []) ⟨hx, hb, hml, hown, hts⟩ (c_X1_nodesAmong l dC dI cI cJ h0 afbi afab afhd afin afjo afnu afre afse nv na fnu H.size x2 _ ht) (cwV 1 hts gX1_nodesIncludedByNode_X1_nodesAmong rfl rfl rfl (by decide +kernel) ⟨Nat.le_of_ble_eq_true rfl, Nat.le_of_ble_eq_true rfl⟩) ⟨fun a U g mk q => by obtain ⟨q0, q1, qP, qK, qD, qN⟩ := q; exact ⟨q0, q1, qP, va_K.moved (u := U) (U := U.calling g mk a) (Vm.Alike.refl U.vm) qK, qD, nw_same rfl qN⟩, va_recv hK hP (ci := 1) (q0 := 0) rfl rfl, fun U hU hW => ⟨rfl, by rw [hU], by rw [hU]; exact hPc, va_K.moved hW.alike hK, hDc.weaken (fun _ _ _ _ => trivial), nw_warm hW hN⟩⟩ rfl rfl hl.1 rfl (lv_room (Nat.le_of_ble_eq_true rfl)) dX1_nodesIncludedByNode_43 ⟨Nat.le_of_ble_eq_true rfl, Nat.le_of_ble_eq_true rfl⟩) hS (fun q _ h => hFc q h) hFc (fun r2 u t H1 locs ht9 hvm hw hB hz1 hk1 hS => ?_)
      obtain ⟨hP1, hK1, hD1⟩ := hB
      rw [ht9] at hP1
      try dsimp only at hw
      replace ht := hw
      obtain ⟨hP, hD⟩ := va_join (wr := [(afin, .inl (cJ, 60, .inr (.inl fin)))]) (w1 := [(h0, .inr (1, [.int nv, .int na, .ref afbi, .ref afab, .ref afhd, .ref afin, .ref afjo, .ref afnu, .ref afre, .ref afse])), (afnu, .inl (cI, 60, .inl fnu))]) hP hD [0, 2] [1] rfl rfl (by decide) (by decide) hk1 hFc hP1 hD1
      generalize H1 = H at hP hS ⊢
      replace hP : va_P (dC, dI) vwCl [(afin, .inl (cJ, 60, .inr (.inl fin))), (h0, .inr (1, [.int nv, .int na, .ref afbi, .ref afab, .ref afhd, .ref afin, .ref afjo, .ref afnu, .ref afre, .ref afse])), (afnu, .inl (cI, 60, .inl fnu))] H := hP
      replace hD : va_D A [(afin, .inl (cJ, 60, .inr (.inl fin))), (h0, .inr (1, [.int nv, .int na, .ref afbi, .ref afab, .ref afhd, .ref afin, .ref afjo, .ref afnu, .ref afre, .ref afse])), (afnu, .inl (cI, 60, .inl fnu))] := hD
      have hP9 : va_P (dC, dI) vwCl [(h0, .inr (1, [.int nv, .int na, .ref afbi, .ref afab, .ref afhd, .ref afin, .ref afjo, .ref afnu, .ref afre, .ref afse])), (afin, .inl (cJ, 60, .inr (.inl fin))), (afnu, .inl (cI, 60, .inl fnu))] _ := (hP.sub [1, 0, 2] rfl)
      have hD9 : va_D A [(h0, .inr (1, [.int nv, .int na, .ref afbi, .ref afab, .ref afhd, .ref afin, .ref afjo, .ref afnu, .ref afre, .ref afse])), (afin, .inl (cJ, 60, .inr (.inl fin))), (afnu, .inl (cI, 60, .inl fnu))] := (hD.sub [1, 0, 2] (by decide) rfl)
      exact W.lret (v := r2) hx hb hr (fun t ht9 hW => ⟨⟨r2, (), rfl, ht, by rw [ht9]; exact hP9, va_K.moved hW.alike hK, hD9⟩, hS.F ht9⟩) hS.2.2 dX1_nodesIncludedByNode_46
    · replace ht := ht.2 c1
      refine lv_aload_n hx hb dX1_nodesIncludedByNode_14 rfl (lv_at hl 0 rfl) ?_
      refine va_get (D := (dC, dI)) (ci := 1) (v := .ref afnu) (C := RX1) (T := TX1) (N := 10) hx hb hts hw0 hown hK hP 0 rfl rfl 7 (by decide) hw2 (fun _ h9 => h9) rfl dX1_nodesIncludedByNode_15 ?_
      refine lv_iload hx hb dX1_nodesIncludedByNode_18 (lv_at hl 3 rfl) ?_
      obtain ⟨i3, ht⟩ := ht
      refine va_iald hx hb hK hP 2 0 rfl rfl i3 dX1_nodesIncludedByNode_20 ?_
      refine lv_iload_n hx hb dX1_nodesIncludedByNode_21 rfl (lv_at hl 1 rfl) ?_
      refine lv_icmp_ne (tgt := 35) hx hb dX1_nodesIncludedByNode_22 (by decide) (fun c4 => ?_) (fun c4 => ?_)
      · replace ht := ht.1 c4
        obtain ⟨y5, ey5⟩ : ∃ y : Int32, y = x4 + 1 := ⟨_, rfl⟩
        replace ht := ht y5 ey5
        refine lv_iinc (v := y5) (lv' := [(4, .int y5), (0, .ref h0), (1, .int p1), (2, .long x2)]) hx hb dX1_nodesIncludedByNode_35 hl (k := 3) rfl (by rw [ey5]; rfl) (by decide) rfl (fun ls hl => ?_)
        refine lv_goto (tgt := 5) hx hb dX1_nodesIncludedByNode_38 (by decide) ?_
        exact ht _ _ _ hP hD hS (lv_sub hl [1, 2, 3, 0] rfl)
      · replace ht := ht.2 c4
        refine lv_lload_n hx hb dX1_nodesIncludedByNode_25 rfl (lv_at hl 2 rfl) ?_
        refine lv_aload_n hx hb dX1_nodesIncludedByNode_26 rfl (lv_at hl 0 rfl) ?_
        refine va_get (D := (dC, dI)) (ci := 1) (v := .ref afin) (C := RX1) (T := TX1) (N := 10) hx hb hts hw0 hown hK hP 0 rfl rfl 5 (by decide) hw3 (fun _ h9 => h9) rfl dX1_nodesIncludedByNode_27 ?_
        refine lv_iload hx hb dX1_nodesIncludedByNode_30 (lv_at hl 3 rfl) ?_
        refine va_lald hx hb hK hP 1 1 rfl rfl i3 dX1_nodesIncludedByNode_32 ?_
        refine lv_lor hx hb dX1_nodesIncludedByNode_33 ?_
        refine lv_topl (fun y6 ey6 => ?_)
        replace ht := ht y6 ey6
        refine lv_lstore_n (lv' := [(2, .long y6), (0, .ref h0), (1, .int p1), (4, .int x4)]) hx hb dX1_nodesIncludedByNode_34 rfl hl (by decide) rfl (fun ls hl => ?_)
        obtain ⟨y7, ey7⟩ : ∃ y : Int32, y = x4 + 1 := ⟨_, rfl⟩
        replace ht := ht y7 ey7
        refine lv_iinc (v := y7) (lv' := [(4, .int y7), (2, .long y6), (0, .ref h0), (1, .int p1)]) hx hb dX1_nodesIncludedByNode_35 hl (k := 3) rfl (by rw [ey7]; rfl) (by decide) rfl (fun ls hl => ?_)
        refine lv_goto (tgt := 5) hx hb dX1_nodesIncludedByNode_38 (by decide) ?_
        exact ht _ _ _ hP hD hS (lv_sub hl [2, 3, 1, 0] rfl)
  · intro ht
    refine lv_lconst (v := 0) hx hb dX1_nodesIncludedByNode_0 rfl ?_
    refine lv_lstore_n (lv' := [(2, .long 0), (0, .ref h0), (1, .int p1)]) hx hb dX1_nodesIncludedByNode_1 rfl hl (by decide) rfl (fun ls hl => ?_)
    refine lv_iconst (v := 0) hx hb dX1_nodesIncludedByNode_2 (by decide) ?_
    refine lv_istore (lv' := [(4, .int 0), (2, .long 0), (0, .ref h0), (1, .int p1)]) hx hb dX1_nodesIncludedByNode_3 hl (by decide) rfl (fun ls hl => ?_)
    exact ht _ _ _ hP hD hS (lv_sub hl [2, 3, 1, 0] rfl)
set_option maxHeartbeats 4000000 in
set_option maxRecDepth 100000 in
theorem c_X1_holdersOf (l : Launch) (dC : Nat → ClassId) (dI : Nat → Nat → Nat) (cI cJ : ClassId) (h0 : Nat) (afbi : Nat) (afab : Nat) (afhd : Nat) (afin : Nat) (afjo : Nat) (afnu : Nat) (afre : Nat) (afse : Nat) (nv : Int32) (na : Int32) (fhd : Nat → Int32) (sz : Nat) (p1 : Int32) (post : Int64 → Prop) (hsp : S_X1_holdersOf p1 nv fhd post) : Met l yX1_holdersOf wsX1_holdersOf ({ frames := 1, cells := 0, slots := 0, locals := 21 }) (va_Pc [.ref h0, .int p1] (fun U => U.heap.size = sz ∧ va_P (dC, dI) vwCl [(h0, .inr (1, [.int nv, .int na, .ref afbi, .ref afab, .ref afhd, .ref afin, .ref afjo, .ref afnu, .ref afre, .ref afse])), (afhd, .inl (cI, 60, .inl fhd))] U.heap ∧ va_K (dC, dI) vwCl [(cI, .int), (cJ, .long)] U ∧ va_D (fun _ => True) [(h0, .inr (1, [.int nv, .int na, .ref afbi, .ref afab, .ref afhd, .ref afin, .ref afjo, .ref afnu, .ref afre, .ref afse])), (afhd, .inl (cI, 60, .inl fhd))] ∧ nw U)) (va_Ql (fun (r : Int64) (u : Unit) => post r) (fun (u : Unit) (t : State) => va_P (dC, dI) vwCl [(h0, .inr (1, [.int nv, .int na, .ref afbi, .ref afab, .ref afhd, .ref afin, .ref afjo, .ref afnu, .ref afre, .ref afse])), (afhd, .inl (cI, 60, .inl fhd))] t.heap ∧ va_K (dC, dI) vwCl [(cI, .int), (cJ, .long)] t ∧ va_D (va_A [(h0, .inr (1, [.int nv, .int na, .ref afbi, .ref afab, .ref afhd, .ref afin, .ref afjo, .ref afnu, .ref afre, .ref afse])), (afhd, .inl (cI, 60, .inl fhd))] sz) [(h0, .inr (1, [.int nv, .int na, .ref afbi, .ref afab, .ref afhd, .ref afin, .ref afjo, .ref afnu, .ref afre, .ref afse])), (afhd, .inl (cI, 60, .inl fhd))]) (va_A [(h0, .inr (1, [.int nv, .int na, .ref afbi, .ref afab, .ref afhd, .ref afin, .ref afjo, .ref afnu, .ref afre, .ref afse])), (afhd, .inl (cI, 60, .inl fhd))] sz)) 0 0 (va_A [(h0, .inr (1, [.int nv, .int na, .ref afbi, .ref afab, .ref afhd, .ref afin, .ref afjo, .ref afnu, .ref afre, .ref afse])), (afhd, .inl (cI, 60, .inl fhd))] sz) := by
  refine Met.ofW (cc := cX1_holdersOf) (maxL := 5) (ret := (some .long)) (by decide) rfl ?_
  intro p e s m args below meth c s₁ B hml hv
  obtain ⟨rfl, hsz, hP, hK, hD0, hN⟩ := hv
  have hx := B.exec
  have hb := B.bytes
  have hr := B.returns
  have hts := atoms_spec (ws := wsX1_holdersOf) B.pre
  have hown : s.vm.findClass RX1 = some m.cls := findClass_of_methodNamed B.named
  have hlocks := B.notSynchronized
  subst hsz
  have hD := hD0.self (sz := s.heap.size)
  generalize hAe : va_A [(h0, .inr (1, [.int nv, .int na, .ref afbi, .ref afab, .ref afhd, .ref afin, .ref afjo, .ref afnu, .ref afre, .ref afse])), (afhd, .inl (cI, 60, .inl fhd))] s.heap.size = A at hD ⊢
  have hA : ∀ q : Nat, s.heap.size ≤ q → A q := fun q h => by rw [← hAe]; exact Or.inr h
  have hS : va_S A s.heap s.heap [] := va_S.rf
  have hl := lv_entry ([.ref h0, .int p1]) (n := 5) (Nat.le_of_ble_eq_true rfl)
  rw [lg_entry_eq]
  generalize (lg_sl ([.ref h0, .int p1]) ++ List.replicate (5 - (lg_sl ([.ref h0, .int p1])).length) Slot.unset).toArray = ls at hl ⊢
  replace hl : lv_has ls 5 [(0, .ref h0), (1, .int p1)] := hl
  have hw0 := (show ∀ w ∈ wsX10, w ∈ wsX1_holdersOf from by decide +kernel)
  have hw1 := hts (.fieldLink RX1 9 "EffectNets$Net" "variables" "I") (by decide +kernel)
  have hw2 := hts (.fieldLink RX1 25 "EffectNets$Net" "had" "[I") (by decide +kernel)
  have hw3 := hts (.initialized RX3) (by decide +kernel)
  have hw4 := hts (.static yX3_containsAtom) (by decide +kernel)
  have hw5 := hts (.static yX3_bit) (by decide +kernel)
  refine hsp _ (fun (x2 : Int64) (x4 : Int32) => ∀ (H : Heap) (locs : List Loc) (ls : Array Slot), va_P (dC, dI) vwCl [(h0, .inr (1, [.int nv, .int na, .ref afbi, .ref afab, .ref afhd, .ref afin, .ref afjo, .ref afnu, .ref afre, .ref afse])), (afhd, .inl (cI, 60, .inl fhd))] H → va_D A [(h0, .inr (1, [.int nv, .int na, .ref afbi, .ref afab, .ref afhd, .ref afin, .ref afjo, .ref afnu, .ref afre, .ref afse])), (afhd, .inl (cI, 60, .inl fhd))] → va_S A s.heap H locs → lv_has ls 5 [(0, .ref h0), (1, .int p1), (2, .long x2), (4, .int x4)] → W p l e (headSpec wsX1_holdersOf ({ frames := 1, cells := 0, slots := 0, locals := 21 })).room s m (List.toArray [.ref h0, .int p1]) below meth c H locs 0 0 (MQ below (va_Ql (fun (r : Int64) (u : Unit) => post r) (fun (u : Unit) (t : State) => va_P (dC, dI) vwCl [(h0, .inr (1, [.int nv, .int na, .ref afbi, .ref afab, .ref afhd, .ref afin, .ref afjo, .ref afnu, .ref afre, .ref afse])), (afhd, .inl (cI, 60, .inl fhd))] t.heap ∧ va_K (dC, dI) vwCl [(cI, .int), (cJ, .long)] t ∧ va_D A [(h0, .inr (1, [.int nv, .int na, .ref afbi, .ref afab, .ref afhd, .ref afin, .ref afjo, .ref afnu, .ref afre, .ref afse])), (afhd, .inl (cI, 60, .inl fhd))]) A) (List.toArray [.ref h0, .int p1]) s 0 0 A) (F0 m 5 ls [])) ?_ ?_
  · intro x2 x4 ht H locs ls hP hD hS hl
    refine lv_iload hx hb dX1_holdersOf_5 (lv_at hl 3 rfl) ?_
    refine lv_aload_n hx hb dX1_holdersOf_7 rfl (lv_at hl 0 rfl) ?_
    refine va_get (D := (dC, dI)) (ci := 1) (v := .int nv) (C := RX1) (T := TX1) (N := 10) hx hb hts hw0 hown hK hP 0 rfl rfl 0 (by decide) hw1 (fun _ h9 => h9) rfl dX1_holdersOf_8 ?_
    refine lv_icmp_ge (tgt := 42) hx hb dX1_holdersOf_11 (by decide) (fun c1 => ?_) (fun c1 => ?_)
    · replace ht := ht.1 c1
      refine lv_lload_n hx hb dX1_holdersOf_42 rfl (lv_at hl 2 rfl) ?_
      have hP9 : va_P (dC, dI) vwCl [(h0, .inr (1, [.int nv, .int na, .ref afbi, .ref afab, .ref afhd, .ref afin, .ref afjo, .ref afnu, .ref afre, .ref afse])), (afhd, .inl (cI, 60, .inl fhd))] _ := hP
      have hD9 : va_D A [(h0, .inr (1, [.int nv, .int na, .ref afbi, .ref afab, .ref afhd, .ref afin, .ref afjo, .ref afnu, .ref afre, .ref afse])), (afhd, .inl (cI, 60, .inl fhd))] := hD
      exact W.lret (v := x2) hx hb hr (fun t ht9 hW => ⟨⟨x2, (), rfl, ht, by rw [ht9]; exact hP9, va_K.moved hW.alike hK, hD9⟩, hS.F ht9⟩) hS.2.2 dX1_holdersOf_43
    · replace ht := ht.2 c1
      refine lv_aload_n hx hb dX1_holdersOf_14 rfl (lv_at hl 0 rfl) ?_
      refine va_get (D := (dC, dI)) (ci := 1) (v := .ref afhd) (C := RX1) (T := TX1) (N := 10) hx hb hts hw0 hown hK hP 0 rfl rfl 4 (by decide) hw2 (fun _ h9 => h9) rfl dX1_holdersOf_15 ?_
      refine lv_iload hx hb dX1_holdersOf_18 (lv_at hl 3 rfl) ?_
      obtain ⟨i2, ht⟩ := ht
      refine va_iald hx hb hK hP 1 0 rfl rfl i2 dX1_holdersOf_20 ?_
      refine lv_iload_n hx hb dX1_holdersOf_21 rfl (lv_at hl 1 rfl) ?_
      have hPc := hP.sub (ws' := []) [] rfl
      have hDc := hD.sub (ws' := []) [] (by decide) rfl
      have hFc := va_free (wc := []) hD hS hA [] rfl
      refine va_calli (va_runSN (As := [.int (fhd x4.toNatClampNeg), .int p1]) (rest := []) ⟨hx, hb, hml, hown, hts⟩ (c_X3_containsAtom l dC dI cI cJ  H.size (fhd x4.toNatClampNeg) p1 _ ht) ⟨va_cnB 2 hts gX1_holdersOf_X3_containsAtom_n94 rfl rfl rfl hN.2.2.2.2.2.1 hw3 (by decide +kernel) ⟨Nat.le_of_ble_eq_true rfl, Nat.le_of_ble_eq_true rfl⟩, hw4, trivial⟩ ⟨fun a U g mk q => by obtain ⟨q0, q1, qP, qK, qD, qN⟩ := q; exact ⟨q0, q1, qP, va_K.moved (u := U) (U := U.calling g mk a) (Vm.Alike.refl U.vm) qK, qD, nw_same rfl qN⟩, fun U hU hW => ⟨rfl, by rw [hU], by rw [hU]; exact hPc, va_K.moved hW.alike hK, hDc.weaken (fun _ _ _ _ => trivial), nw_warm hW hN⟩⟩ rfl rfl hl.1 rfl (lv_room (Nat.le_of_ble_eq_true rfl)) dX1_holdersOf_22 ⟨Nat.le_of_ble_eq_true rfl, Nat.le_of_ble_eq_true rfl⟩) hS (fun q _ h => hFc q h) hFc (fun r3 u t H1 locs ht9 hvm hw hB hz1 hk1 hS => ?_)
      obtain ⟨hP1, hK1, hD1⟩ := hB
      rw [ht9] at hP1
      try dsimp only at hw
      replace ht := hw
      obtain ⟨hP, hD⟩ := va_join (wr := [(h0, .inr (1, [.int nv, .int na, .ref afbi, .ref afab, .ref afhd, .ref afin, .ref afjo, .ref afnu, .ref afre, .ref afse])), (afhd, .inl (cI, 60, .inl fhd))]) (w1 := []) hP hD [] [0, 1] rfl rfl (by decide) (by decide) hk1 hFc hP1 hD1
      generalize H1 = H at hP hS ⊢
      replace hP : va_P (dC, dI) vwCl [(h0, .inr (1, [.int nv, .int na, .ref afbi, .ref afab, .ref afhd, .ref afin, .ref afjo, .ref afnu, .ref afre, .ref afse])), (afhd, .inl (cI, 60, .inl fhd))] H := hP
      replace hD : va_D A [(h0, .inr (1, [.int nv, .int na, .ref afbi, .ref afab, .ref afhd, .ref afin, .ref afjo, .ref afnu, .ref afre, .ref afse])), (afhd, .inl (cI, 60, .inl fhd))] := hD
      refine lv_if_eq (tgt := 36) hx hb dX1_holdersOf_25 (by decide) (fun c4 => ?_) (fun c4 => ?_)
      · replace ht := ht.1 c4
        obtain ⟨y5, ey5⟩ : ∃ y : Int32, y = x4 + 1 := ⟨_, rfl⟩
        replace ht := ht y5 ey5
        refine lv_iinc (v := y5) (lv' := [(4, .int y5), (0, .ref h0), (1, .int p1), (2, .long x2)]) hx hb dX1_holdersOf_36 hl (k := 3) rfl (by rw [ey5]; rfl) (by decide) rfl (fun ls hl => ?_)
        refine lv_goto (tgt := 5) hx hb dX1_holdersOf_39 (by decide) ?_
        exact ht _ _ _ hP hD hS (lv_sub hl [1, 2, 3, 0] rfl)
      · replace ht := ht.2 c4
        refine lv_lload_n hx hb dX1_holdersOf_28 rfl (lv_at hl 2 rfl) ?_
        refine lv_iload hx hb dX1_holdersOf_29 (lv_at hl 3 rfl) ?_
        have hPc := hP.sub (ws' := []) [] rfl
        have hDc := hD.sub (ws' := []) [] (by decide) rfl
        have hFc := va_free (wc := []) hD hS hA [] rfl
        refine va_calll (va_runSN (As := [.int x4]) (rest := [.long x2]) ⟨hx, hb, hml, hown, hts⟩ (c_X3_bit l dC dI cI cJ  H.size x4 _ ht) ⟨va_cnB 1 hts gX1_holdersOf_X3_bit_n50 rfl rfl rfl hN.2.2.2.1 hw3 (by decide +kernel) ⟨Nat.le_of_ble_eq_true rfl, Nat.le_of_ble_eq_true rfl⟩, hw5, trivial⟩ ⟨fun a U g mk q => by obtain ⟨q0, q1, qP, qK, qD, qN⟩ := q; exact ⟨q0, q1, qP, va_K.moved (u := U) (U := U.calling g mk a) (Vm.Alike.refl U.vm) qK, qD, nw_same rfl qN⟩, fun U hU hW => ⟨rfl, by rw [hU], by rw [hU]; exact hPc, va_K.moved hW.alike hK, hDc.weaken (fun _ _ _ _ => trivial), nw_warm hW hN⟩⟩ rfl rfl hl.1 rfl (lv_room (Nat.le_of_ble_eq_true rfl)) dX1_holdersOf_31 ⟨Nat.le_of_ble_eq_true rfl, Nat.le_of_ble_eq_true rfl⟩) hS (fun q _ h => hFc q h) hFc (fun r6 u t H1 locs ht9 hvm hw hB hz1 hk1 hS => ?_)
        obtain ⟨hP1, hK1, hD1⟩ := hB
        rw [ht9] at hP1
        try dsimp only at hw
        replace ht := hw
        obtain ⟨hP, hD⟩ := va_join (wr := [(h0, .inr (1, [.int nv, .int na, .ref afbi, .ref afab, .ref afhd, .ref afin, .ref afjo, .ref afnu, .ref afre, .ref afse])), (afhd, .inl (cI, 60, .inl fhd))]) (w1 := []) hP hD [] [0, 1] rfl rfl (by decide) (by decide) hk1 hFc hP1 hD1
        generalize H1 = H at hP hS ⊢
        replace hP : va_P (dC, dI) vwCl [(h0, .inr (1, [.int nv, .int na, .ref afbi, .ref afab, .ref afhd, .ref afin, .ref afjo, .ref afnu, .ref afre, .ref afse])), (afhd, .inl (cI, 60, .inl fhd))] H := hP
        replace hD : va_D A [(h0, .inr (1, [.int nv, .int na, .ref afbi, .ref afab, .ref afhd, .ref afin, .ref afjo, .ref afnu, .ref afre, .ref afse])), (afhd, .inl (cI, 60, .inl fhd))] := hD
        refine lv_lor hx hb dX1_holdersOf_34 ?_
        refine lv_topl (fun y7 ey7 => ?_)
        replace ht := ht y7 ey7
        refine lv_lstore_n (lv' := [(2, .long y7), (0, .ref h0), (1, .int p1), (4, .int x4)]) hx hb dX1_holdersOf_35 rfl hl (by decide) rfl (fun ls hl => ?_)
        obtain ⟨y8, ey8⟩ : ∃ y : Int32, y = x4 + 1 := ⟨_, rfl⟩
        replace ht := ht y8 ey8
        refine lv_iinc (v := y8) (lv' := [(4, .int y8), (2, .long y7), (0, .ref h0), (1, .int p1)]) hx hb dX1_holdersOf_36 hl (k := 3) rfl (by rw [ey8]; rfl) (by decide) rfl (fun ls hl => ?_)
        refine lv_goto (tgt := 5) hx hb dX1_holdersOf_39 (by decide) ?_
        exact ht _ _ _ hP hD hS (lv_sub hl [2, 3, 1, 0] rfl)
  · intro ht
    refine lv_lconst (v := 0) hx hb dX1_holdersOf_0 rfl ?_
    refine lv_lstore_n (lv' := [(2, .long 0), (0, .ref h0), (1, .int p1)]) hx hb dX1_holdersOf_1 rfl hl (by decide) rfl (fun ls hl => ?_)
    refine lv_iconst (v := 0) hx hb dX1_holdersOf_2 (by decide) ?_
    refine lv_istore (lv' := [(4, .int 0), (2, .long 0), (0, .ref h0), (1, .int p1)]) hx hb dX1_holdersOf_3 hl (by decide) rfl (fun ls hl => ?_)
    exact ht _ _ _ hP hD hS (lv_sub hl [2, 3, 1, 0] rfl)
set_option maxHeartbeats 4000000 in
set_option maxRecDepth 100000 in
theorem c_X1_nextOf (l : Launch) (dC : Nat → ClassId) (dI : Nat → Nat → Nat) (cI cJ : ClassId) (h0 : Nat) (afbi : Nat) (afab : Nat) (afhd : Nat) (afin : Nat) (afjo : Nat) (afnu : Nat) (afre : Nat) (afse : Nat) (nv : Int32) (na : Int32) (fin : Nat → Int64) (fjo : Nat → Int64) (sz : Nat) (p1 : Int32) (post : Int64 → Prop) (hsp : S_X1_nextOf p1 fin fjo post) : Met l yX1_nextOf wsX1_nextOf ({ frames := 0, cells := 0, slots := 0, locals := 0 }) (va_Pc [.ref h0, .int p1] (fun U => U.heap.size = sz ∧ va_P (dC, dI) vwCl [(h0, .inr (1, [.int nv, .int na, .ref afbi, .ref afab, .ref afhd, .ref afin, .ref afjo, .ref afnu, .ref afre, .ref afse])), (afin, .inl (cJ, 60, .inr (.inl fin))), (afjo, .inl (cJ, 60, .inr (.inl fjo)))] U.heap ∧ va_K (dC, dI) vwCl [(cI, .int), (cJ, .long)] U ∧ va_D (fun _ => True) [(h0, .inr (1, [.int nv, .int na, .ref afbi, .ref afab, .ref afhd, .ref afin, .ref afjo, .ref afnu, .ref afre, .ref afse])), (afin, .inl (cJ, 60, .inr (.inl fin))), (afjo, .inl (cJ, 60, .inr (.inl fjo)))] ∧ nw U)) (va_Ql (fun (r : Int64) (u : Unit) => post r) (fun (u : Unit) (t : State) => va_P (dC, dI) vwCl [(h0, .inr (1, [.int nv, .int na, .ref afbi, .ref afab, .ref afhd, .ref afin, .ref afjo, .ref afnu, .ref afre, .ref afse])), (afin, .inl (cJ, 60, .inr (.inl fin))), (afjo, .inl (cJ, 60, .inr (.inl fjo)))] t.heap ∧ va_K (dC, dI) vwCl [(cI, .int), (cJ, .long)] t ∧ va_D (va_A [(h0, .inr (1, [.int nv, .int na, .ref afbi, .ref afab, .ref afhd, .ref afin, .ref afjo, .ref afnu, .ref afre, .ref afse])), (afin, .inl (cJ, 60, .inr (.inl fin))), (afjo, .inl (cJ, 60, .inr (.inl fjo)))] sz) [(h0, .inr (1, [.int nv, .int na, .ref afbi, .ref afab, .ref afhd, .ref afin, .ref afjo, .ref afnu, .ref afre, .ref afse])), (afin, .inl (cJ, 60, .inr (.inl fin))), (afjo, .inl (cJ, 60, .inr (.inl fjo)))]) (va_A [(h0, .inr (1, [.int nv, .int na, .ref afbi, .ref afab, .ref afhd, .ref afin, .ref afjo, .ref afnu, .ref afre, .ref afse])), (afin, .inl (cJ, 60, .inr (.inl fin))), (afjo, .inl (cJ, 60, .inr (.inl fjo)))] sz)) 0 0 (va_A [(h0, .inr (1, [.int nv, .int na, .ref afbi, .ref afab, .ref afhd, .ref afin, .ref afjo, .ref afnu, .ref afre, .ref afse])), (afin, .inl (cJ, 60, .inr (.inl fin))), (afjo, .inl (cJ, 60, .inr (.inl fjo)))] sz) := by
  refine Met.ofW (cc := cX1_nextOf) (maxL := 2) (ret := (some .long)) (by decide) rfl ?_
  intro p e s m args below meth c s₁ B hml hv
  obtain ⟨rfl, hsz, hP, hK, hD0, hN⟩ := hv
  have hx := B.exec
  have hb := B.bytes
  have hr := B.returns
  have hts := atoms_spec (ws := wsX1_nextOf) B.pre
  have hown : s.vm.findClass RX1 = some m.cls := findClass_of_methodNamed B.named
  have hlocks := B.notSynchronized
  subst hsz
  have hD := hD0.self (sz := s.heap.size)
  generalize hAe : va_A [(h0, .inr (1, [.int nv, .int na, .ref afbi, .ref afab, .ref afhd, .ref afin, .ref afjo, .ref afnu, .ref afre, .ref afse])), (afin, .inl (cJ, 60, .inr (.inl fin))), (afjo, .inl (cJ, 60, .inr (.inl fjo)))] s.heap.size = A at hD ⊢
  have hA : ∀ q : Nat, s.heap.size ≤ q → A q := fun q h => by rw [← hAe]; exact Or.inr h
  have hS : va_S A s.heap s.heap [] := va_S.rf
  have hl := lv_entry ([.ref h0, .int p1]) (n := 2) (Nat.le_of_ble_eq_true rfl)
  rw [lg_entry_eq]
  generalize (lg_sl ([.ref h0, .int p1]) ++ List.replicate (2 - (lg_sl ([.ref h0, .int p1])).length) Slot.unset).toArray = ls at hl ⊢
  replace hl : lv_has ls 2 [(0, .ref h0), (1, .int p1)] := hl
  have hw0 := (show ∀ w ∈ wsX10, w ∈ wsX1_nextOf from by decide +kernel)
  have hw1 := hts (.fieldLink RX1 28 "EffectNets$Net" "included" "[J") (by decide +kernel)
  have hw2 := hts (.fieldLink RX1 32 "EffectNets$Net" "joined" "[J") (by decide +kernel)
  refine hsp _ ?_
  · intro ht
    refine lv_aload_n hx hb dX1_nextOf_0 rfl (lv_at hl 0 rfl) ?_
    refine va_get (D := (dC, dI)) (ci := 1) (v := .ref afin) (C := RX1) (T := TX1) (N := 10) hx hb hts hw0 hown hK hP 0 rfl rfl 5 (by decide) hw1 (fun _ h9 => h9) rfl dX1_nextOf_1 ?_
    refine lv_iload_n hx hb dX1_nextOf_4 rfl (lv_at hl 1 rfl) ?_
    obtain ⟨i1, ht⟩ := ht
    refine va_lald hx hb hK hP 1 1 rfl rfl i1 dX1_nextOf_5 ?_
    refine lv_aload_n hx hb dX1_nextOf_6 rfl (lv_at hl 0 rfl) ?_
    refine va_get (D := (dC, dI)) (ci := 1) (v := .ref afjo) (C := RX1) (T := TX1) (N := 10) hx hb hts hw0 hown hK hP 0 rfl rfl 6 (by decide) hw2 (fun _ h9 => h9) rfl dX1_nextOf_7 ?_
    refine lv_iload_n hx hb dX1_nextOf_10 rfl (lv_at hl 1 rfl) ?_
    refine va_lald hx hb hK hP 2 1 rfl rfl i1 dX1_nextOf_11 ?_
    refine lv_lor hx hb dX1_nextOf_12 ?_
    have hP9 : va_P (dC, dI) vwCl [(h0, .inr (1, [.int nv, .int na, .ref afbi, .ref afab, .ref afhd, .ref afin, .ref afjo, .ref afnu, .ref afre, .ref afse])), (afin, .inl (cJ, 60, .inr (.inl fin))), (afjo, .inl (cJ, 60, .inr (.inl fjo)))] _ := hP
    have hD9 : va_D A [(h0, .inr (1, [.int nv, .int na, .ref afbi, .ref afab, .ref afhd, .ref afin, .ref afjo, .ref afnu, .ref afre, .ref afse])), (afin, .inl (cJ, 60, .inr (.inl fin))), (afjo, .inl (cJ, 60, .inr (.inl fjo)))] := hD
    exact W.lret (v := ((fin p1.toNatClampNeg) ||| (fjo p1.toNatClampNeg))) hx hb hr (fun t ht9 hW => ⟨⟨((fin p1.toNatClampNeg) ||| (fjo p1.toNatClampNeg)), (), rfl, ht, by rw [ht9]; exact hP9, va_K.moved hW.alike hK, hD9⟩, hS.F ht9⟩) hS.2.2 dX1_nextOf_13
set_option maxHeartbeats 4000000 in
set_option maxRecDepth 100000 in
theorem c_X1_leadingTo (l : Launch) (dC : Nat → ClassId) (dI : Nat → Nat → Nat) (cI cJ : ClassId) (h0 : Nat) (afbi : Nat) (afab : Nat) (afhd : Nat) (afin : Nat) (afjo : Nat) (afnu : Nat) (afre : Nat) (afse : Nat) (nv : Int32) (na : Int32) (fin : Nat → Int64) (fjo : Nat → Int64) (sz : Nat) (p1 : Int64) (post : Int64 → Prop) (hsp : S_X1_leadingTo p1 nv fin fjo post) : Met l yX1_leadingTo wsX1_leadingTo ({ frames := 1, cells := 0, slots := 0, locals := 21 }) (va_Pc [.ref h0, .long p1] (fun U => U.heap.size = sz ∧ va_P (dC, dI) vwCl [(h0, .inr (1, [.int nv, .int na, .ref afbi, .ref afab, .ref afhd, .ref afin, .ref afjo, .ref afnu, .ref afre, .ref afse])), (afin, .inl (cJ, 60, .inr (.inl fin))), (afjo, .inl (cJ, 60, .inr (.inl fjo)))] U.heap ∧ va_K (dC, dI) vwCl [(cI, .int), (cJ, .long)] U ∧ va_D (fun _ => True) [(h0, .inr (1, [.int nv, .int na, .ref afbi, .ref afab, .ref afhd, .ref afin, .ref afjo, .ref afnu, .ref afre, .ref afse])), (afin, .inl (cJ, 60, .inr (.inl fin))), (afjo, .inl (cJ, 60, .inr (.inl fjo)))] ∧ nw U)) (va_Ql (fun (r : Int64) (u : Unit) => post r) (fun (u : Unit) (t : State) => va_P (dC, dI) vwCl [(h0, .inr (1, [.int nv, .int na, .ref afbi, .ref afab, .ref afhd, .ref afin, .ref afjo, .ref afnu, .ref afre, .ref afse])), (afin, .inl (cJ, 60, .inr (.inl fin))), (afjo, .inl (cJ, 60, .inr (.inl fjo)))] t.heap ∧ va_K (dC, dI) vwCl [(cI, .int), (cJ, .long)] t ∧ va_D (va_A [(h0, .inr (1, [.int nv, .int na, .ref afbi, .ref afab, .ref afhd, .ref afin, .ref afjo, .ref afnu, .ref afre, .ref afse])), (afin, .inl (cJ, 60, .inr (.inl fin))), (afjo, .inl (cJ, 60, .inr (.inl fjo)))] sz) [(h0, .inr (1, [.int nv, .int na, .ref afbi, .ref afab, .ref afhd, .ref afin, .ref afjo, .ref afnu, .ref afre, .ref afse])), (afin, .inl (cJ, 60, .inr (.inl fin))), (afjo, .inl (cJ, 60, .inr (.inl fjo)))]) (va_A [(h0, .inr (1, [.int nv, .int na, .ref afbi, .ref afab, .ref afhd, .ref afin, .ref afjo, .ref afnu, .ref afre, .ref afse])), (afin, .inl (cJ, 60, .inr (.inl fin))), (afjo, .inl (cJ, 60, .inr (.inl fjo)))] sz)) 0 0 (va_A [(h0, .inr (1, [.int nv, .int na, .ref afbi, .ref afab, .ref afhd, .ref afin, .ref afjo, .ref afnu, .ref afre, .ref afse])), (afin, .inl (cJ, 60, .inr (.inl fin))), (afjo, .inl (cJ, 60, .inr (.inl fjo)))] sz) := by
  refine Met.ofW (cc := cX1_leadingTo) (maxL := 6) (ret := (some .long)) (by decide) rfl ?_
  intro p e s m args below meth c s₁ B hml hv
  obtain ⟨rfl, hsz, hP, hK, hD0, hN⟩ := hv
  have hx := B.exec
  have hb := B.bytes
  have hr := B.returns
  have hts := atoms_spec (ws := wsX1_leadingTo) B.pre
  have hown : s.vm.findClass RX1 = some m.cls := findClass_of_methodNamed B.named
  have hlocks := B.notSynchronized
  subst hsz
  have hD := hD0.self (sz := s.heap.size)
  generalize hAe : va_A [(h0, .inr (1, [.int nv, .int na, .ref afbi, .ref afab, .ref afhd, .ref afin, .ref afjo, .ref afnu, .ref afre, .ref afse])), (afin, .inl (cJ, 60, .inr (.inl fin))), (afjo, .inl (cJ, 60, .inr (.inl fjo)))] s.heap.size = A at hD ⊢
  have hA : ∀ q : Nat, s.heap.size ≤ q → A q := fun q h => by rw [← hAe]; exact Or.inr h
  have hS : va_S A s.heap s.heap [] := va_S.rf
  have hl := lv_entry ([.ref h0, .long p1]) (n := 6) (Nat.le_of_ble_eq_true rfl)
  rw [lg_entry_eq]
  generalize (lg_sl ([.ref h0, .long p1]) ++ List.replicate (6 - (lg_sl ([.ref h0, .long p1])).length) Slot.unset).toArray = ls at hl ⊢
  replace hl : lv_has ls 6 [(0, .ref h0), (1, .long p1)] := hl
  have hw0 := (show ∀ w ∈ wsX10, w ∈ wsX1_leadingTo from by decide +kernel)
  have hw1 := hts (.fieldLink RX1 9 "EffectNets$Net" "variables" "I") (by decide +kernel)
  have hw2 := hts (.initialized RX3) (by decide +kernel)
  have hw3 := hts (.static yX3_bit) (by decide +kernel)
  refine hsp _ (fun (x3 : Int64) (x5 : Int32) => ∀ (H : Heap) (locs : List Loc) (ls : Array Slot), va_P (dC, dI) vwCl [(h0, .inr (1, [.int nv, .int na, .ref afbi, .ref afab, .ref afhd, .ref afin, .ref afjo, .ref afnu, .ref afre, .ref afse])), (afin, .inl (cJ, 60, .inr (.inl fin))), (afjo, .inl (cJ, 60, .inr (.inl fjo)))] H → va_D A [(h0, .inr (1, [.int nv, .int na, .ref afbi, .ref afab, .ref afhd, .ref afin, .ref afjo, .ref afnu, .ref afre, .ref afse])), (afin, .inl (cJ, 60, .inr (.inl fin))), (afjo, .inl (cJ, 60, .inr (.inl fjo)))] → va_S A s.heap H locs → lv_has ls 6 [(0, .ref h0), (1, .long p1), (3, .long x3), (5, .int x5)] → W p l e (headSpec wsX1_leadingTo ({ frames := 1, cells := 0, slots := 0, locals := 21 })).room s m (List.toArray [.ref h0, .long p1]) below meth c H locs 0 0 (MQ below (va_Ql (fun (r : Int64) (u : Unit) => post r) (fun (u : Unit) (t : State) => va_P (dC, dI) vwCl [(h0, .inr (1, [.int nv, .int na, .ref afbi, .ref afab, .ref afhd, .ref afin, .ref afjo, .ref afnu, .ref afre, .ref afse])), (afin, .inl (cJ, 60, .inr (.inl fin))), (afjo, .inl (cJ, 60, .inr (.inl fjo)))] t.heap ∧ va_K (dC, dI) vwCl [(cI, .int), (cJ, .long)] t ∧ va_D A [(h0, .inr (1, [.int nv, .int na, .ref afbi, .ref afab, .ref afhd, .ref afin, .ref afjo, .ref afnu, .ref afre, .ref afse])), (afin, .inl (cJ, 60, .inr (.inl fin))), (afjo, .inl (cJ, 60, .inr (.inl fjo)))]) A) (List.toArray [.ref h0, .long p1]) s 0 0 A) (F0 m 5 ls [])) ?_ ?_
  · intro x3 x5 ht H locs ls hP hD hS hl
    refine lv_iload hx hb dX1_leadingTo_5 (lv_at hl 3 rfl) ?_
    refine lv_aload_n hx hb dX1_leadingTo_7 rfl (lv_at hl 0 rfl) ?_
    refine va_get (D := (dC, dI)) (ci := 1) (v := .int nv) (C := RX1) (T := TX1) (N := 10) hx hb hts hw0 hown hK hP 0 rfl rfl 0 (by decide) hw1 (fun _ h9 => h9) rfl dX1_leadingTo_8 ?_
    refine lv_icmp_ge (tgt := 41) hx hb dX1_leadingTo_11 (by decide) (fun c1 => ?_) (fun c1 => ?_)
    · replace ht := ht.1 c1
      refine lv_lload_n hx hb dX1_leadingTo_41 rfl (lv_at hl 2 rfl) ?_
      have hP9 : va_P (dC, dI) vwCl [(h0, .inr (1, [.int nv, .int na, .ref afbi, .ref afab, .ref afhd, .ref afin, .ref afjo, .ref afnu, .ref afre, .ref afse])), (afin, .inl (cJ, 60, .inr (.inl fin))), (afjo, .inl (cJ, 60, .inr (.inl fjo)))] _ := hP
      have hD9 : va_D A [(h0, .inr (1, [.int nv, .int na, .ref afbi, .ref afab, .ref afhd, .ref afin, .ref afjo, .ref afnu, .ref afre, .ref afse])), (afin, .inl (cJ, 60, .inr (.inl fin))), (afjo, .inl (cJ, 60, .inr (.inl fjo)))] := hD
      exact W.lret (v := x3) hx hb hr (fun t ht9 hW => ⟨⟨x3, (), rfl, ht, by rw [ht9]; exact hP9, va_K.moved hW.alike hK, hD9⟩, hS.F ht9⟩) hS.2.2 dX1_leadingTo_42
    · replace ht := ht.2 c1
      refine lv_aload_n hx hb dX1_leadingTo_14 rfl (lv_at hl 0 rfl) ?_
      refine lv_iload hx hb dX1_leadingTo_15 (lv_at hl 3 rfl) ?_
      have hPc := hP.sub (ws' := [(h0, .inr (1, [.int nv, .int na, .ref afbi, .ref afab, .ref afhd, .ref afin, .ref afjo, .ref afnu, .ref afre, .ref afse])), (afin, .inl (cJ, 60, .inr (.inl fin))), (afjo, .inl (cJ, 60, .inr (.inl fjo)))]) [0, 1, 2] rfl
      have hDc := hD.sub (ws' := [(h0, .inr (1, [.int nv, .int na, .ref afbi, .ref afab, .ref afhd, .ref afin, .ref afjo, .ref afnu, .ref afre, .ref afse])), (afin, .inl (cJ, 60, .inr (.inl fin))), (afjo, .inl (cJ, 60, .inr (.inl fjo)))]) [0, 1, 2] (by decide) rfl
      have hFc := va_free (wc := [(h0, .inr (1, [.int nv, .int na, .ref afbi, .ref afab, .ref afhd, .ref afin, .ref afjo, .ref afnu, .ref afre, .ref afse])), (afin, .inl (cJ, 60, .inr (.inl fin))), (afjo, .inl (cJ, 60, .inr (.inl fjo)))]) hD hS hA [0, 1, 2] rfl
      refine va_calll (va_runV (As := [.int x5]) (rest := []) ⟨hx, hb, hml, hown, hts⟩ (c_X1_nextOf l dC dI cI cJ h0 afbi afab afhd afin afjo afnu afre afse nv na fin fjo H.size x5 _ ht) (cwV 1 hts gX1_leadingTo_X1_nextOf rfl rfl rfl (by decide +kernel) ⟨Nat.le_of_ble_eq_true rfl, Nat.le_of_ble_eq_true rfl⟩) ⟨fun a U g mk q => by obtain ⟨q0, q1, qP, qK, qD, qN⟩ := q; exact ⟨q0, q1, qP, va_K.moved (u := U) (U := U.calling g mk a) (Vm.Alike.refl U.vm) qK, qD, nw_same rfl qN⟩, va_recv hK hP (ci := 1) (q0 := 0) rfl rfl, fun U hU hW => ⟨rfl, by rw [hU], by rw [hU]; exact hPc, va_K.moved hW.alike hK, hDc.weaken (fun _ _ _ _ => trivial), nw_warm hW hN⟩⟩ rfl rfl hl.1 rfl (lv_room (Nat.le_of_ble_eq_true rfl)) dX1_leadingTo_17 ⟨Nat.le_of_ble_eq_true rfl, Nat.le_of_ble_eq_true rfl⟩) hS (fun q _ h => hFc q h) hFc (fun r2 u t H1 locs ht9 hvm hw hB hz1 hk1 hS => ?_)
      obtain ⟨hP1, hK1, hD1⟩ := hB
      rw [ht9] at hP1
      try dsimp only at hw
      replace ht := hw
      obtain ⟨hP, hD⟩ := va_join (wr := []) (w1 := [(h0, .inr (1, [.int nv, .int na, .ref afbi, .ref afab, .ref afhd, .ref afin, .ref afjo, .ref afnu, .ref afre, .ref afse])), (afin, .inl (cJ, 60, .inr (.inl fin))), (afjo, .inl (cJ, 60, .inr (.inl fjo)))]) hP hD [0, 1, 2] [] rfl rfl (by decide) (by decide) hk1 hFc hP1 hD1
      generalize H1 = H at hP hS ⊢
      replace hP : va_P (dC, dI) vwCl [(h0, .inr (1, [.int nv, .int na, .ref afbi, .ref afab, .ref afhd, .ref afin, .ref afjo, .ref afnu, .ref afre, .ref afse])), (afin, .inl (cJ, 60, .inr (.inl fin))), (afjo, .inl (cJ, 60, .inr (.inl fjo)))] H := hP
      replace hD : va_D A [(h0, .inr (1, [.int nv, .int na, .ref afbi, .ref afab, .ref afhd, .ref afin, .ref afjo, .ref afnu, .ref afre, .ref afse])), (afin, .inl (cJ, 60, .inr (.inl fin))), (afjo, .inl (cJ, 60, .inr (.inl fjo)))] := hD
      refine lv_lload_n hx hb dX1_leadingTo_20 rfl (lv_at hl 1 rfl) ?_
      refine lv_land hx hb dX1_leadingTo_21 ?_
      refine lv_lconst (v := 0) hx hb dX1_leadingTo_22 rfl ?_
      refine W.lcmp hx hb dX1_leadingTo_23 ?_
      refine lv_if_eq (tgt := 35) hx hb dX1_leadingTo_24 (by decide) (fun c3 => ?_) (fun c3 => ?_)
      · replace ht := ht.1 c3
        obtain ⟨y4, ey4⟩ : ∃ y : Int32, y = x5 + 1 := ⟨_, rfl⟩
        replace ht := ht y4 ey4
        refine lv_iinc (v := y4) (lv' := [(5, .int y4), (0, .ref h0), (1, .long p1), (3, .long x3)]) hx hb dX1_leadingTo_35 hl (k := 3) rfl (by rw [ey4]; rfl) (by decide) rfl (fun ls hl => ?_)
        refine lv_goto (tgt := 5) hx hb dX1_leadingTo_38 (by decide) ?_
        exact ht _ _ _ hP hD hS (lv_sub hl [1, 2, 3, 0] rfl)
      · replace ht := ht.2 c3
        refine lv_lload_n hx hb dX1_leadingTo_27 rfl (lv_at hl 2 rfl) ?_
        refine lv_iload hx hb dX1_leadingTo_28 (lv_at hl 3 rfl) ?_
        have hPc := hP.sub (ws' := []) [] rfl
        have hDc := hD.sub (ws' := []) [] (by decide) rfl
        have hFc := va_free (wc := []) hD hS hA [] rfl
        refine va_calll (va_runSN (As := [.int x5]) (rest := [.long x3]) ⟨hx, hb, hml, hown, hts⟩ (c_X3_bit l dC dI cI cJ  H.size x5 _ ht) ⟨va_cnB 1 hts gX1_leadingTo_X3_bit_n50 rfl rfl rfl hN.2.2.2.1 hw2 (by decide +kernel) ⟨Nat.le_of_ble_eq_true rfl, Nat.le_of_ble_eq_true rfl⟩, hw3, trivial⟩ ⟨fun a U g mk q => by obtain ⟨q0, q1, qP, qK, qD, qN⟩ := q; exact ⟨q0, q1, qP, va_K.moved (u := U) (U := U.calling g mk a) (Vm.Alike.refl U.vm) qK, qD, nw_same rfl qN⟩, fun U hU hW => ⟨rfl, by rw [hU], by rw [hU]; exact hPc, va_K.moved hW.alike hK, hDc.weaken (fun _ _ _ _ => trivial), nw_warm hW hN⟩⟩ rfl rfl hl.1 rfl (lv_room (Nat.le_of_ble_eq_true rfl)) dX1_leadingTo_30 ⟨Nat.le_of_ble_eq_true rfl, Nat.le_of_ble_eq_true rfl⟩) hS (fun q _ h => hFc q h) hFc (fun r5 u t H1 locs ht9 hvm hw hB hz1 hk1 hS => ?_)
        obtain ⟨hP1, hK1, hD1⟩ := hB
        rw [ht9] at hP1
        try dsimp only at hw
        replace ht := hw
        obtain ⟨hP, hD⟩ := va_join (wr := [(h0, .inr (1, [.int nv, .int na, .ref afbi, .ref afab, .ref afhd, .ref afin, .ref afjo, .ref afnu, .ref afre, .ref afse])), (afin, .inl (cJ, 60, .inr (.inl fin))), (afjo, .inl (cJ, 60, .inr (.inl fjo)))]) (w1 := []) hP hD [] [0, 1, 2] rfl rfl (by decide) (by decide) hk1 hFc hP1 hD1
        generalize H1 = H at hP hS ⊢
        replace hP : va_P (dC, dI) vwCl [(h0, .inr (1, [.int nv, .int na, .ref afbi, .ref afab, .ref afhd, .ref afin, .ref afjo, .ref afnu, .ref afre, .ref afse])), (afin, .inl (cJ, 60, .inr (.inl fin))), (afjo, .inl (cJ, 60, .inr (.inl fjo)))] H := hP
        replace hD : va_D A [(h0, .inr (1, [.int nv, .int na, .ref afbi, .ref afab, .ref afhd, .ref afin, .ref afjo, .ref afnu, .ref afre, .ref afse])), (afin, .inl (cJ, 60, .inr (.inl fin))), (afjo, .inl (cJ, 60, .inr (.inl fjo)))] := hD
        refine lv_lor hx hb dX1_leadingTo_33 ?_
        refine lv_topl (fun y6 ey6 => ?_)
        replace ht := ht y6 ey6
        refine lv_lstore_n (lv' := [(3, .long y6), (0, .ref h0), (1, .long p1), (5, .int x5)]) hx hb dX1_leadingTo_34 rfl hl (by decide) rfl (fun ls hl => ?_)
        obtain ⟨y7, ey7⟩ : ∃ y : Int32, y = x5 + 1 := ⟨_, rfl⟩
        replace ht := ht y7 ey7
        refine lv_iinc (v := y7) (lv' := [(5, .int y7), (3, .long y6), (0, .ref h0), (1, .long p1)]) hx hb dX1_leadingTo_35 hl (k := 3) rfl (by rw [ey7]; rfl) (by decide) rfl (fun ls hl => ?_)
        refine lv_goto (tgt := 5) hx hb dX1_leadingTo_38 (by decide) ?_
        exact ht _ _ _ hP hD hS (lv_sub hl [2, 3, 1, 0] rfl)
  · intro ht
    refine lv_lconst (v := 0) hx hb dX1_leadingTo_0 rfl ?_
    refine lv_lstore_n (lv' := [(3, .long 0), (0, .ref h0), (1, .long p1)]) hx hb dX1_leadingTo_1 rfl hl (by decide) rfl (fun ls hl => ?_)
    refine lv_iconst (v := 0) hx hb dX1_leadingTo_2 (by decide) ?_
    refine lv_istore (lv' := [(5, .int 0), (3, .long 0), (0, .ref h0), (1, .long p1)]) hx hb dX1_leadingTo_3 hl (by decide) rfl (fun ls hl => ?_)
    exact ht _ _ _ hP hD hS (lv_sub hl [2, 3, 1, 0] rfl)

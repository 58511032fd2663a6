set_option maxHeartbeats 4000000 in
set_option maxRecDepth 100000 in
theorem c_X1_takeFrom (l : Launch) (dC : Nat → ClassId) (dI : Nat → Nat → Nat) (cI cJ : ClassId) (h0 : Nat) (h1 : Nat) (afbi : Nat) (afab : Nat) (afhd : Nat) (afin : Nat) (afjo : Nat) (afnu : Nat) (afre : Nat) (afse : Nat) (afbio : Nat) (afabo : Nat) (afhdo : Nat) (afino : Nat) (afjoo : Nat) (afnuo : Nat) (afreo : Nat) (afseo : Nat) (nv : Int32) (na : Int32) (nvo : Int32) (nao : Int32) (fbi : Nat → Int32) (fab : Nat → Int32) (fhd : Nat → Int32) (fin : Nat → Int64) (fjo : Nat → Int64) (fnu : Nat → Int32) (fre : Nat → Int64) (fse : Nat → Int32) (fbio : Nat → Int32) (fabo : Nat → Int32) (fhdo : Nat → Int32) (fino : Nat → Int64) (fjoo : Nat → Int64) (fnuo : Nat → Int32) (freo : Nat → Int64) (fseo : Nat → Int32) (sz : Nat) (post : Int32 → Int32 → (Nat → Int32) → (Nat → Int32) → (Nat → Int32) → (Nat → Int64) → (Nat → Int64) → (Nat → Int32) → (Nat → Int64) → (Nat → Int32) → Prop) (hsp : S_X1_takeFrom nv na nvo nao fbi fab fhd fin fjo fnu fre fse fbio fabo fhdo fino fjoo fnuo freo fseo post) : Met l yX1_takeFrom wsX1_takeFrom ({ frames := 1, cells := 0, slots := 0, locals := 48 }) (va_Pc [.ref h0, .ref h1] (fun U => U.heap.size = sz ∧ va_P (dC, dI) vwCl [(h0, .inr (1, [.int nv, .int na, .ref afbi, .ref afab, .ref afhd, .ref afin, .ref afjo, .ref afnu, .ref afre, .ref afse])), (h1, .inr (1, [.int nvo, .int nao, .ref afbio, .ref afabo, .ref afhdo, .ref afino, .ref afjoo, .ref afnuo, .ref afreo, .ref afseo])), (afbi, .inl (cI, 60, .inl fbi)), (afab, .inl (cI, 32, .inl fab)), (afhd, .inl (cI, 60, .inl fhd)), (afin, .inl (cJ, 60, .inr (.inl fin))), (afjo, .inl (cJ, 60, .inr (.inl fjo))), (afnu, .inl (cI, 60, .inl fnu)), (afre, .inl (cJ, 60, .inr (.inl fre))), (afse, .inl (cI, 60, .inl fse)), (afbio, .inl (cI, 60, .inl fbio)), (afabo, .inl (cI, 32, .inl fabo)), (afhdo, .inl (cI, 60, .inl fhdo)), (afino, .inl (cJ, 60, .inr (.inl fino))), (afjoo, .inl (cJ, 60, .inr (.inl fjoo))), (afnuo, .inl (cI, 60, .inl fnuo)), (afreo, .inl (cJ, 60, .inr (.inl freo))), (afseo, .inl (cI, 60, .inl fseo))] U.heap ∧ va_K (dC, dI) vwCl [(cI, .int), (cJ, .long)] U ∧ va_D (fun _ => True) [(h0, .inr (1, [.int nv, .int na, .ref afbi, .ref afab, .ref afhd, .ref afin, .ref afjo, .ref afnu, .ref afre, .ref afse])), (h1, .inr (1, [.int nvo, .int nao, .ref afbio, .ref afabo, .ref afhdo, .ref afino, .ref afjoo, .ref afnuo, .ref afreo, .ref afseo])), (afbi, .inl (cI, 60, .inl fbi)), (afab, .inl (cI, 32, .inl fab)), (afhd, .inl (cI, 60, .inl fhd)), (afin, .inl (cJ, 60, .inr (.inl fin))), (afjo, .inl (cJ, 60, .inr (.inl fjo))), (afnu, .inl (cI, 60, .inl fnu)), (afre, .inl (cJ, 60, .inr (.inl fre))), (afse, .inl (cI, 60, .inl fse)), (afbio, .inl (cI, 60, .inl fbio)), (afabo, .inl (cI, 32, .inl fabo)), (afhdo, .inl (cI, 60, .inl fhdo)), (afino, .inl (cJ, 60, .inr (.inl fino))), (afjoo, .inl (cJ, 60, .inr (.inl fjoo))), (afnuo, .inl (cI, 60, .inl fnuo)), (afreo, .inl (cJ, 60, .inr (.inl freo))), (afseo, .inl (cI, 60, .inl fseo))] ∧ nw U)) (va_Qv (fun (u : Int32 × Int32 × (Nat → Int32) × (Nat → Int32) × (Nat → Int32) × (Nat → Int64) × (Nat → Int64) × (Nat → Int32) × (Nat → Int64) × (Nat → Int32)) => post (u.1) (u.2.1) (u.2.2.1) (u.2.2.2.1) (u.2.2.2.2.1) (u.2.2.2.2.2.1) (u.2.2.2.2.2.2.1) (u.2.2.2.2.2.2.2.1) (u.2.2.2.2.2.2.2.2.1) (u.2.2.2.2.2.2.2.2.2)) (fun (u : Int32 × Int32 × (Nat → Int32) × (Nat → Int32) × (Nat → Int32) × (Nat → Int64) × (Nat → Int64) × (Nat → Int32) × (Nat → Int64) × (Nat → Int32)) (t : State) => va_P (dC, dI) vwCl [(h0, .inr (1, [.int (u.1), .int (u.2.1), .ref afbi, .ref afab, .ref afhd, .ref afin, .ref afjo, .ref afnu, .ref afre, .ref afse])), (h1, .inr (1, [.int nvo, .int nao, .ref afbio, .ref afabo, .ref afhdo, .ref afino, .ref afjoo, .ref afnuo, .ref afreo, .ref afseo])), (afbi, .inl (cI, 60, .inl (u.2.2.1))), (afab, .inl (cI, 32, .inl (u.2.2.2.1))), (afhd, .inl (cI, 60, .inl (u.2.2.2.2.1))), (afin, .inl (cJ, 60, .inr (.inl (u.2.2.2.2.2.1)))), (afjo, .inl (cJ, 60, .inr (.inl (u.2.2.2.2.2.2.1)))), (afnu, .inl (cI, 60, .inl (u.2.2.2.2.2.2.2.1))), (afre, .inl (cJ, 60, .inr (.inl (u.2.2.2.2.2.2.2.2.1)))), (afse, .inl (cI, 60, .inl (u.2.2.2.2.2.2.2.2.2))), (afbio, .inl (cI, 60, .inl fbio)), (afabo, .inl (cI, 32, .inl fabo)), (afhdo, .inl (cI, 60, .inl fhdo)), (afino, .inl (cJ, 60, .inr (.inl fino))), (afjoo, .inl (cJ, 60, .inr (.inl fjoo))), (afnuo, .inl (cI, 60, .inl fnuo)), (afreo, .inl (cJ, 60, .inr (.inl freo))), (afseo, .inl (cI, 60, .inl fseo))] t.heap ∧ va_K (dC, dI) vwCl [(cI, .int), (cJ, .long)] t ∧ va_D (va_A [(h0, .inr (1, [.int nv, .int na, .ref afbi, .ref afab, .ref afhd, .ref afin, .ref afjo, .ref afnu, .ref afre, .ref afse])), (h1, .inr (1, [.int nvo, .int nao, .ref afbio, .ref afabo, .ref afhdo, .ref afino, .ref afjoo, .ref afnuo, .ref afreo, .ref afseo])), (afbi, .inl (cI, 60, .inl fbi)), (afab, .inl (cI, 32, .inl fab)), (afhd, .inl (cI, 60, .inl fhd)), (afin, .inl (cJ, 60, .inr (.inl fin))), (afjo, .inl (cJ, 60, .inr (.inl fjo))), (afnu, .inl (cI, 60, .inl fnu)), (afre, .inl (cJ, 60, .inr (.inl fre))), (afse, .inl (cI, 60, .inl fse)), (afbio, .inl (cI, 60, .inl fbio)), (afabo, .inl (cI, 32, .inl fabo)), (afhdo, .inl (cI, 60, .inl fhdo)), (afino, .inl (cJ, 60, .inr (.inl fino))), (afjoo, .inl (cJ, 60, .inr (.inl fjoo))), (afnuo, .inl (cI, 60, .inl fnuo)), (afreo, .inl (cJ, 60, .inr (.inl freo))), (afseo, .inl (cI, 60, .inl fseo))] sz) [(h0, .inr (1, [.int (u.1), .int (u.2.1), .ref afbi, .ref afab, .ref afhd, .ref afin, .ref afjo, .ref afnu, .ref afre, .ref afse])), (h1, .inr (1, [.int nvo, .int nao, .ref afbio, .ref afabo, .ref afhdo, .ref afino, .ref afjoo, .ref afnuo, .ref afreo, .ref afseo])), (afbi, .inl (cI, 60, .inl (u.2.2.1))), (afab, .inl (cI, 32, .inl (u.2.2.2.1))), (afhd, .inl (cI, 60, .inl (u.2.2.2.2.1))), (afin, .inl (cJ, 60, .inr (.inl (u.2.2.2.2.2.1)))), (afjo, .inl (cJ, 60, .inr (.inl (u.2.2.2.2.2.2.1)))), (afnu, .inl (cI, 60, .inl (u.2.2.2.2.2.2.2.1))), (afre, .inl (cJ, 60, .inr (.inl (u.2.2.2.2.2.2.2.2.1)))), (afse, .inl (cI, 60, .inl (u.2.2.2.2.2.2.2.2.2))), (afbio, .inl (cI, 60, .inl fbio)), (afabo, .inl (cI, 32, .inl fabo)), (afhdo, .inl (cI, 60, .inl fhdo)), (afino, .inl (cJ, 60, .inr (.inl fino))), (afjoo, .inl (cJ, 60, .inr (.inl fjoo))), (afnuo, .inl (cI, 60, .inl fnuo)), (afreo, .inl (cJ, 60, .inr (.inl freo))), (afseo, .inl (cI, 60, .inl fseo))]) (va_A [(h0, .inr (1, [.int nv, .int na, .ref afbi, .ref afab, .ref afhd, .ref afin, .ref afjo, .ref afnu, .ref afre, .ref afse])), (h1, .inr (1, [.int nvo, .int nao, .ref afbio, .ref afabo, .ref afhdo, .ref afino, .ref afjoo, .ref afnuo, .ref afreo, .ref afseo])), (afbi, .inl (cI, 60, .inl fbi)), (afab, .inl (cI, 32, .inl fab)), (afhd, .inl (cI, 60, .inl fhd)), (afin, .inl (cJ, 60, .inr (.inl fin))), (afjo, .inl (cJ, 60, .inr (.inl fjo))), (afnu, .inl (cI, 60, .inl fnu)), (afre, .inl (cJ, 60, .inr (.inl fre))), (afse, .inl (cI, 60, .inl fse)), (afbio, .inl (cI, 60, .inl fbio)), (afabo, .inl (cI, 32, .inl fabo)), (afhdo, .inl (cI, 60, .inl fhdo)), (afino, .inl (cJ, 60, .inr (.inl fino))), (afjoo, .inl (cJ, 60, .inr (.inl fjoo))), (afnuo, .inl (cI, 60, .inl fnuo)), (afreo, .inl (cJ, 60, .inr (.inl freo))), (afseo, .inl (cI, 60, .inl fseo))] sz)) 0 0 (va_A [(h0, .inr (1, [.int nv, .int na, .ref afbi, .ref afab, .ref afhd, .ref afin, .ref afjo, .ref afnu, .ref afre, .ref afse])), (h1, .inr (1, [.int nvo, .int nao, .ref afbio, .ref afabo, .ref afhdo, .ref afino, .ref afjoo, .ref afnuo, .ref afreo, .ref afseo])), (afbi, .inl (cI, 60, .inl fbi)), (afab, .inl (cI, 32, .inl fab)), (afhd, .inl (cI, 60, .inl fhd)), (afin, .inl (cJ, 60, .inr (.inl fin))), (afjo, .inl (cJ, 60, .inr (.inl fjo))), (afnu, .inl (cI, 60, .inl fnu)), (afre, .inl (cJ, 60, .inr (.inl fre))), (afse, .inl (cI, 60, .inl fse)), (afbio, .inl (cI, 60, .inl fbio)), (afabo, .inl (cI, 32, .inl fabo)), (afhdo, .inl (cI, 60, .inl fhdo)), (afino, .inl (cJ, 60, .inr (.inl fino))), (afjoo, .inl (cJ, 60, .inr (.inl fjoo))), (afnuo, .inl (cI, 60, .inl fnuo)), (afreo, .inl (cJ, 60, .inr (.inl freo))), (afseo, .inl (cI, 60, .inl fseo))] sz) := by
  refine Met.ofW (cc := cX1_takeFrom) (maxL := 2) (ret := none) (by decide) rfl ?_
  intro p e s m args below meth c s₁ B hml hv
  obtain ⟨rfl, hsz, hP, hK, hD0, hN⟩ := hv
  have hx := B.exec
  have hb := B.bytes
  have hr := B.returns
  have hts := atoms_spec (ws := wsX1_takeFrom) B.pre
  have hown : s.vm.findClass RX1 = some m.cls := findClass_of_methodNamed B.named
  have hlocks := B.notSynchronized
  subst hsz
  have hD := hD0.self (sz := s.heap.size)
  generalize hAe : va_A [(h0, .inr (1, [.int nv, .int na, .ref afbi, .ref afab, .ref afhd, .ref afin, .ref afjo, .ref afnu, .ref afre, .ref afse])), (h1, .inr (1, [.int nvo, .int nao, .ref afbio, .ref afabo, .ref afhdo, .ref afino, .ref afjoo, .ref afnuo, .ref afreo, .ref afseo])), (afbi, .inl (cI, 60, .inl fbi)), (afab, .inl (cI, 32, .inl fab)), (afhd, .inl (cI, 60, .inl fhd)), (afin, .inl (cJ, 60, .inr (.inl fin))), (afjo, .inl (cJ, 60, .inr (.inl fjo))), (afnu, .inl (cI, 60, .inl fnu)), (afre, .inl (cJ, 60, .inr (.inl fre))), (afse, .inl (cI, 60, .inl fse)), (afbio, .inl (cI, 60, .inl fbio)), (afabo, .inl (cI, 32, .inl fabo)), (afhdo, .inl (cI, 60, .inl fhdo)), (afino, .inl (cJ, 60, .inr (.inl fino))), (afjoo, .inl (cJ, 60, .inr (.inl fjoo))), (afnuo, .inl (cI, 60, .inl fnuo)), (afreo, .inl (cJ, 60, .inr (.inl freo))), (afseo, .inl (cI, 60, .inl fseo))] s.heap.size = A at hD ⊢
  have hA : ∀ q : Nat, s.heap.size ≤ q → A q := fun q h => by rw [← hAe]; exact Or.inr h
  have hS : va_S A s.heap s.heap [] := va_S.rf
  have hl := lv_entry ([.ref h0, .ref h1]) (n := 2) (Nat.le_of_ble_eq_true rfl)
  rw [lg_entry_eq]
  generalize (lg_sl ([.ref h0, .ref h1]) ++ List.replicate (2 - (lg_sl ([.ref h0, .ref h1])).length) Slot.unset).toArray = ls at hl ⊢
  replace hl : lv_has ls 2 [(0, .ref h0), (1, .ref h1)] := hl
  have hw0 := (show ∀ w ∈ wsX10, w ∈ wsX1_takeFrom from by decide +kernel)
  have hw1 := hts (.fieldLink RX1 9 "EffectNets$Net" "variables" "I") (by decide +kernel)
  have hw2 := hts (.fieldLink RX1 15 "EffectNets$Net" "atoms" "I") (by decide +kernel)
  have hw3 := hts (.fieldLink RX1 18 "EffectNets$Net" "births" "[I") (by decide +kernel)
  have hw4 := hts (.methodLink RX1 44 arraycopyName) (by decide +kernel)
  have hw5 := hts (.native arraycopyName) (by decide +kernel)
  have hw6 := hts (.static arraycopyName) (by decide +kernel)
  have hw7 := hts (.initialized "java/lang/System") (by decide +kernel)
  have hw8 := hts (.fieldLink RX1 22 "EffectNets$Net" "atomBirths" "[I") (by decide +kernel)
  have hw9 := hts (.fieldLink RX1 25 "EffectNets$Net" "had" "[I") (by decide +kernel)
  have hw10 := hts (.fieldLink RX1 28 "EffectNets$Net" "included" "[J") (by decide +kernel)
  have hw11 := hts (.fieldLink RX1 32 "EffectNets$Net" "joined" "[J") (by decide +kernel)
  have hw12 := hts (.fieldLink RX1 35 "EffectNets$Net" "numbers" "[I") (by decide +kernel)
  have hw13 := hts (.fieldLink RX1 38 "EffectNets$Net" "reached" "[J") (by decide +kernel)
  have hw14 := hts (.fieldLink RX1 41 "EffectNets$Net" "sets" "[I") (by decide +kernel)
  refine hsp _ ?_
  · intro ht
    refine lv_aload_n hx hb dX1_takeFrom_0 rfl (lv_at hl 0 rfl) ?_
    refine lv_aload_n hx hb dX1_takeFrom_1 rfl (lv_at hl 1 rfl) ?_
    refine va_get (D := (dC, dI)) (ci := 1) (v := .int nvo) (C := RX1) (T := TX1) (N := 10) hx hb hts hw0 hown hK hP 1 rfl rfl 0 (by decide) hw1 (fun _ h9 => h9) rfl dX1_takeFrom_2 ?_
    refine va_put (D := (dC, dI)) (ci := 1) (v := .int nvo) (ty := .int) (C := RX1) (T := TX1) (N := 10) hx hb hts hw0 tyX1 tyX1_ok nmX1 hown hK hP hD hS 0 rfl rfl 0 (by decide) hw1 (fun _ h9 => h9) rfl (by decide +kernel) rfl rfl (Nat.le_of_ble_eq_true rfl) dX1_takeFrom_5 (fun H locs hP hD hS => ?_)
    replace hP : va_P (dC, dI) vwCl [(h0, .inr (1, [.int nvo, .int na, .ref afbi, .ref afab, .ref afhd, .ref afin, .ref afjo, .ref afnu, .ref afre, .ref afse])), (h1, .inr (1, [.int nvo, .int nao, .ref afbio, .ref afabo, .ref afhdo, .ref afino, .ref afjoo, .ref afnuo, .ref afreo, .ref afseo])), (afbi, .inl (cI, 60, .inl fbi)), (afab, .inl (cI, 32, .inl fab)), (afhd, .inl (cI, 60, .inl fhd)), (afin, .inl (cJ, 60, .inr (.inl fin))), (afjo, .inl (cJ, 60, .inr (.inl fjo))), (afnu, .inl (cI, 60, .inl fnu)), (afre, .inl (cJ, 60, .inr (.inl fre))), (afse, .inl (cI, 60, .inl fse)), (afbio, .inl (cI, 60, .inl fbio)), (afabo, .inl (cI, 32, .inl fabo)), (afhdo, .inl (cI, 60, .inl fhdo)), (afino, .inl (cJ, 60, .inr (.inl fino))), (afjoo, .inl (cJ, 60, .inr (.inl fjoo))), (afnuo, .inl (cI, 60, .inl fnuo)), (afreo, .inl (cJ, 60, .inr (.inl freo))), (afseo, .inl (cI, 60, .inl fseo))] H := hP
    replace hD : va_D A [(h0, .inr (1, [.int nvo, .int na, .ref afbi, .ref afab, .ref afhd, .ref afin, .ref afjo, .ref afnu, .ref afre, .ref afse])), (h1, .inr (1, [.int nvo, .int nao, .ref afbio, .ref afabo, .ref afhdo, .ref afino, .ref afjoo, .ref afnuo, .ref afreo, .ref afseo])), (afbi, .inl (cI, 60, .inl fbi)), (afab, .inl (cI, 32, .inl fab)), (afhd, .inl (cI, 60, .inl fhd)), (afin, .inl (cJ, 60, .inr (.inl fin))), (afjo, .inl (cJ, 60, .inr (.inl fjo))), (afnu, .inl (cI, 60, .inl fnu)), (afre, .inl (cJ, 60, .inr (.inl fre))), (afse, .inl (cI, 60, .inl fse)), (afbio, .inl (cI, 60, .inl fbio)), (afabo, .inl (cI, 32, .inl fabo)), (afhdo, .inl (cI, 60, .inl fhdo)), (afino, .inl (cJ, 60, .inr (.inl fino))), (afjoo, .inl (cJ, 60, .inr (.inl fjoo))), (afnuo, .inl (cI, 60, .inl fnuo)), (afreo, .inl (cJ, 60, .inr (.inl freo))), (afseo, .inl (cI, 60, .inl fseo))] := hD
    refine lv_aload_n hx hb dX1_takeFrom_8 rfl (lv_at hl 0 rfl) ?_
    refine lv_aload_n hx hb dX1_takeFrom_9 rfl (lv_at hl 1 rfl) ?_
    refine va_get (D := (dC, dI)) (ci := 1) (v := .int nao) (C := RX1) (T := TX1) (N := 10) hx hb hts hw0 hown hK hP 1 rfl rfl 1 (by decide) hw2 (fun _ h9 => h9) rfl dX1_takeFrom_10 ?_
    refine va_put (D := (dC, dI)) (ci := 1) (v := .int nao) (ty := .int) (C := RX1) (T := TX1) (N := 10) hx hb hts hw0 tyX1 tyX1_ok nmX1 hown hK hP hD hS 0 rfl rfl 1 (by decide) hw2 (fun _ h9 => h9) rfl (by decide +kernel) rfl rfl (Nat.le_of_ble_eq_true rfl) dX1_takeFrom_13 (fun H locs hP hD hS => ?_)
    replace hP : va_P (dC, dI) vwCl [(h0, .inr (1, [.int nvo, .int nao, .ref afbi, .ref afab, .ref afhd, .ref afin, .ref afjo, .ref afnu, .ref afre, .ref afse])), (h1, .inr (1, [.int nvo, .int nao, .ref afbio, .ref afabo, .ref afhdo, .ref afino, .ref afjoo, .ref afnuo, .ref afreo, .ref afseo])), (afbi, .inl (cI, 60, .inl fbi)), (afab, .inl (cI, 32, .inl fab)), (afhd, .inl (cI, 60, .inl fhd)), (afin, .inl (cJ, 60, .inr (.inl fin))), (afjo, .inl (cJ, 60, .inr (.inl fjo))), (afnu, .inl (cI, 60, .inl fnu)), (afre, .inl (cJ, 60, .inr (.inl fre))), (afse, .inl (cI, 60, .inl fse)), (afbio, .inl (cI, 60, .inl fbio)), (afabo, .inl (cI, 32, .inl fabo)), (afhdo, .inl (cI, 60, .inl fhdo)), (afino, .inl (cJ, 60, .inr (.inl fino))), (afjoo, .inl (cJ, 60, .inr (.inl fjoo))), (afnuo, .inl (cI, 60, .inl fnuo)), (afreo, .inl (cJ, 60, .inr (.inl freo))), (afseo, .inl (cI, 60, .inl fseo))] H := hP
    replace hD : va_D A [(h0, .inr (1, [.int nvo, .int nao, .ref afbi, .ref afab, .ref afhd, .ref afin, .ref afjo, .ref afnu, .ref afre, .ref afse])), (h1, .inr (1, [.int nvo, .int nao, .ref afbio, .ref afabo, .ref afhdo, .ref afino, .ref afjoo, .ref afnuo, .ref afreo, .ref afseo])), (afbi, .inl (cI, 60, .inl fbi)), (afab, .inl (cI, 32, .inl fab)), (afhd, .inl (cI, 60, .inl fhd)), (afin, .inl (cJ, 60, .inr (.inl fin))), (afjo, .inl (cJ, 60, .inr (.inl fjo))), (afnu, .inl (cI, 60, .inl fnu)), (afre, .inl (cJ, 60, .inr (.inl fre))), (afse, .inl (cI, 60, .inl fse)), (afbio, .inl (cI, 60, .inl fbio)), (afabo, .inl (cI, 32, .inl fabo)), (afhdo, .inl (cI, 60, .inl fhdo)), (afino, .inl (cJ, 60, .inr (.inl fino))), (afjoo, .inl (cJ, 60, .inr (.inl fjoo))), (afnuo, .inl (cI, 60, .inl fnuo)), (afreo, .inl (cJ, 60, .inr (.inl freo))), (afseo, .inl (cI, 60, .inl fseo))] := hD
    refine lv_aload_n hx hb dX1_takeFrom_16 rfl (lv_at hl 1 rfl) ?_
    refine va_get (D := (dC, dI)) (ci := 1) (v := .ref afbio) (C := RX1) (T := TX1) (N := 10) hx hb hts hw0 hown hK hP 1 rfl rfl 2 (by decide) hw3 (fun _ h9 => h9) rfl dX1_takeFrom_17 ?_
    refine lv_iconst (v := 0) hx hb dX1_takeFrom_20 (by decide) ?_
    refine lv_aload_n hx hb dX1_takeFrom_21 rfl (lv_at hl 0 rfl) ?_
    refine va_get (D := (dC, dI)) (ci := 1) (v := .ref afbi) (C := RX1) (T := TX1) (N := 10) hx hb hts hw0 hown hK hP 0 rfl rfl 2 (by decide) hw3 (fun _ h9 => h9) rfl dX1_takeFrom_22 ?_
    refine lv_iconst (v := 0) hx hb dX1_takeFrom_25 (by decide) ?_
    refine lv_aload_n hx hb dX1_takeFrom_26 rfl (lv_at hl 0 rfl) ?_
    refine va_get (D := (dC, dI)) (ci := 1) (v := .int nvo) (C := RX1) (T := TX1) (N := 10) hx hb hts hw0 hown hK hP 0 rfl rfl 0 (by decide) hw1 (fun _ h9 => h9) rfl dX1_takeFrom_27 ?_
    obtain ⟨i1, ht⟩ := ht
    refine va_copyi hx hb (hml.trans hl.1.symm) hown hw4 hw5 hw6 hw7 hK hP hD hS 10 2 0 0 rfl rfl rfl rfl rfl (by decide) (by decide) i1.1 i1.2.1 i1.2.2 (fun _ _ => rfl) (Nat.le_of_ble_eq_true rfl) (Nat.le_of_ble_eq_true rfl) dX1_takeFrom_30 (fun H locs hP hD hS => ?_)
    replace hP : va_P (dC, dI) vwCl [(h0, .inr (1, [.int nvo, .int nao, .ref afbi, .ref afab, .ref afhd, .ref afin, .ref afjo, .ref afnu, .ref afre, .ref afse])), (h1, .inr (1, [.int nvo, .int nao, .ref afbio, .ref afabo, .ref afhdo, .ref afino, .ref afjoo, .ref afnuo, .ref afreo, .ref afseo])), (afbi, .inl (cI, 60, .inl (va_cpy fbio fbi (0 : Int32).toNatClampNeg (0 : Int32).toNatClampNeg nvo.toNatClampNeg))), (afab, .inl (cI, 32, .inl fab)), (afhd, .inl (cI, 60, .inl fhd)), (afin, .inl (cJ, 60, .inr (.inl fin))), (afjo, .inl (cJ, 60, .inr (.inl fjo))), (afnu, .inl (cI, 60, .inl fnu)), (afre, .inl (cJ, 60, .inr (.inl fre))), (afse, .inl (cI, 60, .inl fse)), (afbio, .inl (cI, 60, .inl fbio)), (afabo, .inl (cI, 32, .inl fabo)), (afhdo, .inl (cI, 60, .inl fhdo)), (afino, .inl (cJ, 60, .inr (.inl fino))), (afjoo, .inl (cJ, 60, .inr (.inl fjoo))), (afnuo, .inl (cI, 60, .inl fnuo)), (afreo, .inl (cJ, 60, .inr (.inl freo))), (afseo, .inl (cI, 60, .inl fseo))] H := hP
    replace hD : va_D A [(h0, .inr (1, [.int nvo, .int nao, .ref afbi, .ref afab, .ref afhd, .ref afin, .ref afjo, .ref afnu, .ref afre, .ref afse])), (h1, .inr (1, [.int nvo, .int nao, .ref afbio, .ref afabo, .ref afhdo, .ref afino, .ref afjoo, .ref afnuo, .ref afreo, .ref afseo])), (afbi, .inl (cI, 60, .inl (va_cpy fbio fbi (0 : Int32).toNatClampNeg (0 : Int32).toNatClampNeg nvo.toNatClampNeg))), (afab, .inl (cI, 32, .inl fab)), (afhd, .inl (cI, 60, .inl fhd)), (afin, .inl (cJ, 60, .inr (.inl fin))), (afjo, .inl (cJ, 60, .inr (.inl fjo))), (afnu, .inl (cI, 60, .inl fnu)), (afre, .inl (cJ, 60, .inr (.inl fre))), (afse, .inl (cI, 60, .inl fse)), (afbio, .inl (cI, 60, .inl fbio)), (afabo, .inl (cI, 32, .inl fabo)), (afhdo, .inl (cI, 60, .inl fhdo)), (afino, .inl (cJ, 60, .inr (.inl fino))), (afjoo, .inl (cJ, 60, .inr (.inl fjoo))), (afnuo, .inl (cI, 60, .inl fnuo)), (afreo, .inl (cJ, 60, .inr (.inl freo))), (afseo, .inl (cI, 60, .inl fseo))] := hD
    refine lv_aload_n hx hb dX1_takeFrom_33 rfl (lv_at hl 1 rfl) ?_
    refine va_get (D := (dC, dI)) (ci := 1) (v := .ref afabo) (C := RX1) (T := TX1) (N := 10) hx hb hts hw0 hown hK hP 1 rfl rfl 3 (by decide) hw8 (fun _ h9 => h9) rfl dX1_takeFrom_34 ?_
    refine lv_iconst (v := 0) hx hb dX1_takeFrom_37 (by decide) ?_
    refine lv_aload_n hx hb dX1_takeFrom_38 rfl (lv_at hl 0 rfl) ?_
    refine va_get (D := (dC, dI)) (ci := 1) (v := .ref afab) (C := RX1) (T := TX1) (N := 10) hx hb hts hw0 hown hK hP 0 rfl rfl 3 (by decide) hw8 (fun _ h9 => h9) rfl dX1_takeFrom_39 ?_
    refine lv_iconst (v := 0) hx hb dX1_takeFrom_42 (by decide) ?_
    refine lv_aload_n hx hb dX1_takeFrom_43 rfl (lv_at hl 0 rfl) ?_
    refine va_get (D := (dC, dI)) (ci := 1) (v := .int nao) (C := RX1) (T := TX1) (N := 10) hx hb hts hw0 hown hK hP 0 rfl rfl 1 (by decide) hw2 (fun _ h9 => h9) rfl dX1_takeFrom_44 ?_
    obtain ⟨i2, ht⟩ := ht
    refine va_copyi hx hb (hml.trans hl.1.symm) hown hw4 hw5 hw6 hw7 hK hP hD hS 11 3 0 0 rfl rfl rfl rfl rfl (by decide) (by decide) i2.1 i2.2.1 i2.2.2 (fun _ _ => rfl) (Nat.le_of_ble_eq_true rfl) (Nat.le_of_ble_eq_true rfl) dX1_takeFrom_47 (fun H locs hP hD hS => ?_)
    replace hP : va_P (dC, dI) vwCl [(h0, .inr (1, [.int nvo, .int nao, .ref afbi, .ref afab, .ref afhd, .ref afin, .ref afjo, .ref afnu, .ref afre, .ref afse])), (h1, .inr (1, [.int nvo, .int nao, .ref afbio, .ref afabo, .ref afhdo, .ref afino, .ref afjoo, .ref afnuo, .ref afreo, .ref afseo])), (afbi, .inl (cI, 60, .inl (va_cpy fbio fbi (0 : Int32).toNatClampNeg (0 : Int32).toNatClampNeg nvo.toNatClampNeg))), (afab, .inl (cI, 32, .inl (va_cpy fabo fab (0 : Int32).toNatClampNeg (0 : Int32).toNatClampNeg nao.toNatClampNeg))), (afhd, .inl (cI, 60, .inl fhd)), (afin, .inl (cJ, 60, .inr (.inl fin))), (afjo, .inl (cJ, 60, .inr (.inl fjo))), (afnu, .inl (cI, 60, .inl fnu)), (afre, .inl (cJ, 60, .inr (.inl fre))), (afse, .inl (cI, 60, .inl fse)), (afbio, .inl (cI, 60, .inl fbio)), (afabo, .inl (cI, 32, .inl fabo)), (afhdo, .inl (cI, 60, .inl fhdo)), (afino, .inl (cJ, 60, .inr (.inl fino))), (afjoo, .inl (cJ, 60, .inr (.inl fjoo))), (afnuo, .inl (cI, 60, .inl fnuo)), (afreo, .inl (cJ, 60, .inr (.inl freo))), (afseo, .inl (cI, 60, .inl fseo))] H := hP
    replace hD : va_D A [(h0, .inr (1, [.int nvo, .int nao, .ref afbi, .ref afab, .ref afhd, .ref afin, .ref afjo, .ref afnu, .ref afre, .ref afse])), (h1, .inr (1, [.int nvo, .int nao, .ref afbio, .ref afabo, .ref afhdo, .ref afino, .ref afjoo, .ref afnuo, .ref afreo, .ref afseo])), (afbi, .inl (cI, 60, .inl (va_cpy fbio fbi (0 : Int32).toNatClampNeg (0 : Int32).toNatClampNeg nvo.toNatClampNeg))), (afab, .inl (cI, 32, .inl (va_cpy fabo fab (0 : Int32).toNatClampNeg (0 : Int32).toNatClampNeg nao.toNatClampNeg))), (afhd, .inl (cI, 60, .inl fhd)), (afin, .inl (cJ, 60, .inr (.inl fin))), (afjo, .inl (cJ, 60, .inr (.inl fjo))), (afnu, .inl (cI, 60, .inl fnu)), (afre, .inl (cJ, 60, .inr (.inl fre))), (afse, .inl (cI, 60, .inl fse)), (afbio, .inl (cI, 60, .inl fbio)), (afabo, .inl (cI, 32, .inl fabo)), (afhdo, .inl (cI, 60, .inl fhdo)), (afino, .inl (cJ, 60, .inr (.inl fino))), (afjoo, .inl (cJ, 60, .inr (.inl fjoo))), (afnuo, .inl (cI, 60, .inl fnuo)), (afreo, .inl (cJ, 60, .inr (.inl freo))), (afseo, .inl (cI, 60, .inl fseo))] := hD
    refine lv_aload_n hx hb dX1_takeFrom_50 rfl (lv_at hl 1 rfl) ?_
    refine va_get (D := (dC, dI)) (ci := 1) (v := .ref afhdo) (C := RX1) (T := TX1) (N := 10) hx hb hts hw0 hown hK hP 1 rfl rfl 4 (by decide) hw9 (fun _ h9 => h9) rfl dX1_takeFrom_51 ?_
    refine lv_iconst (v := 0) hx hb dX1_takeFrom_54 (by decide) ?_
    refine lv_aload_n hx hb dX1_takeFrom_55 rfl (lv_at hl 0 rfl) ?_
    refine va_get (D := (dC, dI)) (ci := 1) (v := .ref afhd) (C := RX1) (T := TX1) (N := 10) hx hb hts hw0 hown hK hP 0 rfl rfl 4 (by decide) hw9 (fun _ h9 => h9) rfl dX1_takeFrom_56 ?_
    refine lv_iconst (v := 0) hx hb dX1_takeFrom_59 (by decide) ?_
    refine lv_aload_n hx hb dX1_takeFrom_60 rfl (lv_at hl 0 rfl) ?_
    refine va_get (D := (dC, dI)) (ci := 1) (v := .int nvo) (C := RX1) (T := TX1) (N := 10) hx hb hts hw0 hown hK hP 0 rfl rfl 0 (by decide) hw1 (fun _ h9 => h9) rfl dX1_takeFrom_61 ?_
    refine va_copyi hx hb (hml.trans hl.1.symm) hown hw4 hw5 hw6 hw7 hK hP hD hS 12 4 0 0 rfl rfl rfl rfl rfl (by decide) (by decide) i1.1 i1.2.1 i1.2.2 (fun _ _ => rfl) (Nat.le_of_ble_eq_true rfl) (Nat.le_of_ble_eq_true rfl) dX1_takeFrom_64 (fun H locs hP hD hS => ?_)
    replace hP : va_P (dC, dI) vwCl [(h0, .inr (1, [.int nvo, .int nao, .ref afbi, .ref afab, .ref afhd, .ref afin, .ref afjo, .ref afnu, .ref afre, .ref afse])), (h1, .inr (1, [.int nvo, .int nao, .ref afbio, .ref afabo, .ref afhdo, .ref afino, .ref afjoo, .ref afnuo, .ref afreo, .ref afseo])), (afbi, .inl (cI, 60, .inl (va_cpy fbio fbi (0 : Int32).toNatClampNeg (0 : Int32).toNatClampNeg nvo.toNatClampNeg))), (afab, .inl (cI, 32, .inl (va_cpy fabo fab (0 : Int32).toNatClampNeg (0 : Int32).toNatClampNeg nao.toNatClampNeg))), (afhd, .inl (cI, 60, .inl (va_cpy fhdo fhd (0 : Int32).toNatClampNeg (0 : Int32).toNatClampNeg nvo.toNatClampNeg))), (afin, .inl (cJ, 60, .inr (.inl fin))), (afjo, .inl (cJ, 60, .inr (.inl fjo))), (afnu, .inl (cI, 60, .inl fnu)), (afre, .inl (cJ, 60, .inr (.inl fre))), (afse, .inl (cI, 60, .inl fse)), (afbio, .inl (cI, 60, .inl fbio)), (afabo, .inl (cI, 32, .inl fabo)), (afhdo, .inl (cI, 60, .inl fhdo)), (afino, .inl (cJ, 60, .inr (.inl fino))), (afjoo, .inl (cJ, 60, .inr (.inl fjoo))), (afnuo, .inl (cI, 60, .inl fnuo)), (afreo, .inl (cJ, 60, .inr (.inl freo))), (afseo, .inl (cI, 60, .inl fseo))] H := hP
    replace hD : va_D A [(h0, .inr (1, [.int nvo, .int nao, .ref afbi, .ref afab, .ref afhd, .ref afin, .ref afjo, .ref afnu, .ref afre, .ref afse])), (h1, .inr (1, [.int nvo, .int nao, .ref afbio, .ref afabo, .ref afhdo, .ref afino, .ref afjoo, .ref afnuo, .ref afreo, .ref afseo])), (afbi, .inl (cI, 60, .inl (va_cpy fbio fbi (0 : Int32).toNatClampNeg (0 : Int32).toNatClampNeg nvo.toNatClampNeg))), (afab, .inl (cI, 32, .inl (va_cpy fabo fab (0 : Int32).toNatClampNeg (0 : Int32).toNatClampNeg nao.toNatClampNeg))), (afhd, .inl (cI, 60, .inl (va_cpy fhdo fhd (0 : Int32).toNatClampNeg (0 : Int32).toNatClampNeg nvo.toNatClampNeg))), (afin, .inl (cJ, 60, .inr (.inl fin))), (afjo, .inl (cJ, 60, .inr (.inl fjo))), (afnu, .inl (cI, 60, .inl fnu)), (afre, .inl (cJ, 60, .inr (.inl fre))), (afse, .inl (cI, 60, .inl fse)), (afbio, .inl (cI, 60, .inl fbio)), (afabo, .inl (cI, 32, .inl fabo)), (afhdo, .inl (cI, 60, .inl fhdo)), (afino, .inl (cJ, 60, .inr (.inl fino))), (afjoo, .inl (cJ, 60, .inr (.inl fjoo))), (afnuo, .inl (cI, 60, .inl fnuo)), (afreo, .inl (cJ, 60, .inr (.inl freo))), (afseo, .inl (cI, 60, .inl fseo))] := hD
    refine lv_aload_n hx hb dX1_takeFrom_67 rfl (lv_at hl 1 rfl) ?_
    refine va_get (D := (dC, dI)) (ci := 1) (v := .ref afino) (C := RX1) (T := TX1) (N := 10) hx hb hts hw0 hown hK hP 1 rfl rfl 5 (by decide) hw10 (fun _ h9 => h9) rfl dX1_takeFrom_68 ?_
    refine lv_iconst (v := 0) hx hb dX1_takeFrom_71 (by decide) ?_
    refine lv_aload_n hx hb dX1_takeFrom_72 rfl (lv_at hl 0 rfl) ?_
    refine va_get (D := (dC, dI)) (ci := 1) (v := .ref afin) (C := RX1) (T := TX1) (N := 10) hx hb hts hw0 hown hK hP 0 rfl rfl 5 (by decide) hw10 (fun _ h9 => h9) rfl dX1_takeFrom_73 ?_
    refine lv_iconst (v := 0) hx hb dX1_takeFrom_76 (by decide) ?_
    refine lv_aload_n hx hb dX1_takeFrom_77 rfl (lv_at hl 0 rfl) ?_
    refine va_get (D := (dC, dI)) (ci := 1) (v := .int nvo) (C := RX1) (T := TX1) (N := 10) hx hb hts hw0 hown hK hP 0 rfl rfl 0 (by decide) hw1 (fun _ h9 => h9) rfl dX1_takeFrom_78 ?_
    refine va_copyl hx hb (hml.trans hl.1.symm) hown hw4 hw5 hw6 hw7 hK hP hD hS 13 5 1 1 rfl rfl rfl rfl rfl (by decide) (by decide) i1.1 i1.2.1 i1.2.2 (fun _ _ => rfl) (Nat.le_of_ble_eq_true rfl) (Nat.le_of_ble_eq_true rfl) dX1_takeFrom_81 (fun H locs hP hD hS => ?_)
    replace hP : va_P (dC, dI) vwCl [(h0, .inr (1, [.int nvo, .int nao, .ref afbi, .ref afab, .ref afhd, .ref afin, .ref afjo, .ref afnu, .ref afre, .ref afse])), (h1, .inr (1, [.int nvo, .int nao, .ref afbio, .ref afabo, .ref afhdo, .ref afino, .ref afjoo, .ref afnuo, .ref afreo, .ref afseo])), (afbi, .inl (cI, 60, .inl (va_cpy fbio fbi (0 : Int32).toNatClampNeg (0 : Int32).toNatClampNeg nvo.toNatClampNeg))), (afab, .inl (cI, 32, .inl (va_cpy fabo fab (0 : Int32).toNatClampNeg (0 : Int32).toNatClampNeg nao.toNatClampNeg))), (afhd, .inl (cI, 60, .inl (va_cpy fhdo fhd (0 : Int32).toNatClampNeg (0 : Int32).toNatClampNeg nvo.toNatClampNeg))), (afin, .inl (cJ, 60, .inr (.inl (va_cpy fino fin (0 : Int32).toNatClampNeg (0 : Int32).toNatClampNeg nvo.toNatClampNeg)))), (afjo, .inl (cJ, 60, .inr (.inl fjo))), (afnu, .inl (cI, 60, .inl fnu)), (afre, .inl (cJ, 60, .inr (.inl fre))), (afse, .inl (cI, 60, .inl fse)), (afbio, .inl (cI, 60, .inl fbio)), (afabo, .inl (cI, 32, .inl fabo)), (afhdo, .inl (cI, 60, .inl fhdo)), (afino, .inl (cJ, 60, .inr (.inl fino))), (afjoo, .inl (cJ, 60, .inr (.inl fjoo))), (afnuo, .inl (cI, 60, .inl fnuo)), (afreo, .inl (cJ, 60, .inr (.inl freo))), (afseo, .inl (cI, 60, .inl fseo))] H := hP
    replace hD : va_D A [(h0, .inr (1, [.int nvo, .int nao, .ref afbi, .ref afab, .ref afhd, .ref afin, .ref afjo, .ref afnu, .ref afre, .ref afse])), (h1, .inr (1, [.int nvo, .int nao, .ref afbio, .ref afabo, .ref afhdo, .ref afino, .ref afjoo, .ref afnuo, .ref afreo, .ref afseo])), (afbi, .inl (cI, 60, .inl (va_cpy fbio fbi (0 : Int32).toNatClampNeg (0 : Int32).toNatClampNeg nvo.toNatClampNeg))), (afab, .inl (cI, 32, .inl (va_cpy fabo fab (0 : Int32).toNatClampNeg (0 : Int32).toNatClampNeg nao.toNatClampNeg))), (afhd, .inl (cI, 60, .inl (va_cpy fhdo fhd (0 : Int32).toNatClampNeg (0 : Int32).toNatClampNeg nvo.toNatClampNeg))), (afin, .inl (cJ, 60, .inr (.inl (va_cpy fino fin (0 : Int32).toNatClampNeg (0 : Int32).toNatClampNeg nvo.toNatClampNeg)))), (afjo, .inl (cJ, 60, .inr (.inl fjo))), (afnu, .inl (cI, 60, .inl fnu)), (afre, .inl (cJ, 60, .inr (.inl fre))), (afse, .inl (cI, 60, .inl fse)), (afbio, .inl (cI, 60, .inl fbio)), (afabo, .inl (cI, 32, .inl fabo)), (afhdo, .inl (cI, 60, .inl fhdo)), (afino, .inl (cJ, 60, .inr (.inl fino))), (afjoo, .inl (cJ, 60, .inr (.inl fjoo))), (afnuo, .inl (cI, 60, .inl fnuo)), (afreo, .inl (cJ, 60, .inr (.inl freo))), (afseo, .inl (cI, 60, .inl fseo))] := hD
    refine lv_aload_n hx hb dX1_takeFrom_84 rfl (lv_at hl 1 rfl) ?_
    refine va_get (D := (dC, dI)) (ci := 1) (v := .ref afjoo) (C := RX1) (T := TX1) (N := 10) hx hb hts hw0 hown hK hP 1 rfl rfl 6 (by decide) hw11 (fun _ h9 => h9) rfl dX1_takeFrom_85 ?_
    refine lv_iconst (v := 0) hx hb dX1_takeFrom_88 (by decide) ?_
    refine lv_aload_n hx hb dX1_takeFrom_89 rfl (lv_at hl 0 rfl) ?_
    refine va_get (D := (dC, dI)) (ci := 1) (v := .ref afjo) (C := RX1) (T := TX1) (N := 10) hx hb hts hw0 hown hK hP 0 rfl rfl 6 (by decide) hw11 (fun _ h9 => h9) rfl dX1_takeFrom_90 ?_
    refine lv_iconst (v := 0) hx hb dX1_takeFrom_93 (by decide) ?_
    refine lv_aload_n hx hb dX1_takeFrom_94 rfl (lv_at hl 0 rfl) ?_
    refine va_get (D := (dC, dI)) (ci := 1) (v := .int nvo) (C := RX1) (T := TX1) (N := 10) hx hb hts hw0 hown hK hP 0 rfl rfl 0 (by decide) hw1 (fun _ h9 => h9) rfl dX1_takeFrom_95 ?_
    refine va_copyl hx hb (hml.trans hl.1.symm) hown hw4 hw5 hw6 hw7 hK hP hD hS 14 6 1 1 rfl rfl rfl rfl rfl (by decide) (by decide) i1.1 i1.2.1 i1.2.2 (fun _ _ => rfl) (Nat.le_of_ble_eq_true rfl) (Nat.le_of_ble_eq_true rfl) dX1_takeFrom_98 (fun H locs hP hD hS => ?_)
    replace hP : va_P (dC, dI) vwCl [(h0, .inr (1, [.int nvo, .int nao, .ref afbi, .ref afab, .ref afhd, .ref afin, .ref afjo, .ref afnu, .ref afre, .ref afse])), (h1, .inr (1, [.int nvo, .int nao, .ref afbio, .ref afabo, .ref afhdo, .ref afino, .ref afjoo, .ref afnuo, .ref afreo, .ref afseo])), (afbi, .inl (cI, 60, .inl (va_cpy fbio fbi (0 : Int32).toNatClampNeg (0 : Int32).toNatClampNeg nvo.toNatClampNeg))), (afab, .inl (cI, 32, .inl (va_cpy fabo fab (0 : Int32).toNatClampNeg (0 : Int32).toNatClampNeg nao.toNatClampNeg))), (afhd, .inl (cI, 60, .inl (va_cpy fhdo fhd (0 : Int32).toNatClampNeg (0 : Int32).toNatClampNeg nvo.toNatClampNeg))), (afin, .inl (cJ, 60, .inr (.inl (va_cpy fino fin (0 : Int32).toNatClampNeg (0 : Int32).toNatClampNeg nvo.toNatClampNeg)))), (afjo, .inl (cJ, 60, .inr (.inl (va_cpy fjoo fjo (0 : Int32).toNatClampNeg (0 : Int32).toNatClampNeg nvo.toNatClampNeg)))), (afnu, .inl (cI, 60, .inl fnu)), (afre, .inl (cJ, 60, .inr (.inl fre))), (afse, .inl (cI, 60, .inl fse)), (afbio, .inl (cI, 60, .inl fbio)), (afabo, .inl (cI, 32, .inl fabo)), (afhdo, .inl (cI, 60, .inl fhdo)), (afino, .inl (cJ, 60, .inr (.inl fino))), (afjoo, .inl (cJ, 60, .inr (.inl fjoo))), (afnuo, .inl (cI, 60, .inl fnuo)), (afreo, .inl (cJ, 60, .inr (.inl freo))), (afseo, .inl (cI, 60, .inl fseo))] H := hP
    replace hD : va_D A [(h0, .inr (1, [.int nvo, .int nao, .ref afbi, .ref afab, .ref afhd, .ref afin, .ref afjo, .ref afnu, .ref afre, .ref afse])), (h1, .inr (1, [.int nvo, .int nao, .ref afbio, .ref afabo, .ref afhdo, .ref afino, .ref afjoo, .ref afnuo, .ref afreo, .ref afseo])), (afbi, .inl (cI, 60, .inl (va_cpy fbio fbi (0 : Int32).toNatClampNeg (0 : Int32).toNatClampNeg nvo.toNatClampNeg))), (afab, .inl (cI, 32, .inl (va_cpy fabo fab (0 : Int32).toNatClampNeg (0 : Int32).toNatClampNeg nao.toNatClampNeg))), (afhd, .inl (cI, 60, .inl (va_cpy fhdo fhd (0 : Int32).toNatClampNeg (0 : Int32).toNatClampNeg nvo.toNatClampNeg))), (afin, .inl (cJ, 60, .inr (.inl (va_cpy fino fin (0 : Int32).toNatClampNeg (0 : Int32).toNatClampNeg nvo.toNatClampNeg)))), (afjo, .inl (cJ, 60, .inr (.inl (va_cpy fjoo fjo (0 : Int32).toNatClampNeg (0 : Int32).toNatClampNeg nvo.toNatClampNeg)))), (afnu, .inl (cI, 60, .inl fnu)), (afre, .inl (cJ, 60, .inr (.inl fre))), (afse, .inl (cI, 60, .inl fse)), (afbio, .inl (cI, 60, .inl fbio)), (afabo, .inl (cI, 32, .inl fabo)), (afhdo, .inl (cI, 60, .inl fhdo)), (afino, .inl (cJ, 60, .inr (.inl fino))), (afjoo, .inl (cJ, 60, .inr (.inl fjoo))), (afnuo, .inl (cI, 60, .inl fnuo)), (afreo, .inl (cJ, 60, .inr (.inl freo))), (afseo, .inl (cI, 60, .inl fseo))] := hD
    refine lv_aload_n hx hb dX1_takeFrom_101 rfl (lv_at hl 1 rfl) ?_
    refine va_get (D := (dC, dI)) (ci := 1) (v := .ref afnuo) (C := RX1) (T := TX1) (N := 10) hx hb hts hw0 hown hK hP 1 rfl rfl 7 (by decide) hw12 (fun _ h9 => h9) rfl dX1_takeFrom_102 ?_
    refine lv_iconst (v := 0) hx hb dX1_takeFrom_105 (by decide) ?_
    refine lv_aload_n hx hb dX1_takeFrom_106 rfl (lv_at hl 0 rfl) ?_
    refine va_get (D := (dC, dI)) (ci := 1) (v := .ref afnu) (C := RX1) (T := TX1) (N := 10) hx hb hts hw0 hown hK hP 0 rfl rfl 7 (by decide) hw12 (fun _ h9 => h9) rfl dX1_takeFrom_107 ?_
    refine lv_iconst (v := 0) hx hb dX1_takeFrom_110 (by decide) ?_
    refine lv_aload_n hx hb dX1_takeFrom_111 rfl (lv_at hl 0 rfl) ?_
    refine va_get (D := (dC, dI)) (ci := 1) (v := .int nvo) (C := RX1) (T := TX1) (N := 10) hx hb hts hw0 hown hK hP 0 rfl rfl 0 (by decide) hw1 (fun _ h9 => h9) rfl dX1_takeFrom_112 ?_
    refine va_copyi hx hb (hml.trans hl.1.symm) hown hw4 hw5 hw6 hw7 hK hP hD hS 15 7 0 0 rfl rfl rfl rfl rfl (by decide) (by decide) i1.1 i1.2.1 i1.2.2 (fun _ _ => rfl) (Nat.le_of_ble_eq_true rfl) (Nat.le_of_ble_eq_true rfl) dX1_takeFrom_115 (fun H locs hP hD hS => ?_)
    replace hP : va_P (dC, dI) vwCl [(h0, .inr (1, [.int nvo, .int nao, .ref afbi, .ref afab, .ref afhd, .ref afin, .ref afjo, .ref afnu, .ref afre, .ref afse])), (h1, .inr (1, [.int nvo, .int nao, .ref afbio, .ref afabo, .ref afhdo, .ref afino, .ref afjoo, .ref afnuo, .ref afreo, .ref afseo])), (afbi, .inl (cI, 60, .inl (va_cpy fbio fbi (0 : Int32).toNatClampNeg (0 : Int32).toNatClampNeg nvo.toNatClampNeg))), (afab, .inl (cI, 32, .inl (va_cpy fabo fab (0 : Int32).toNatClampNeg (0 : Int32).toNatClampNeg nao.toNatClampNeg))), (afhd, .inl (cI, 60, .inl (va_cpy fhdo fhd (0 : Int32).toNatClampNeg (0 : Int32).toNatClampNeg nvo.toNatClampNeg))), (afin, .inl (cJ, 60, .inr (.inl (va_cpy fino fin (0 : Int32).toNatClampNeg (0 : Int32).toNatClampNeg nvo.toNatClampNeg)))), (afjo, .inl (cJ, 60, .inr (.inl (va_cpy fjoo fjo (0 : Int32).toNatClampNeg (0 : Int32).toNatClampNeg nvo.toNatClampNeg)))), (afnu, .inl (cI, 60, .inl (va_cpy fnuo fnu (0 : Int32).toNatClampNeg (0 : Int32).toNatClampNeg nvo.toNatClampNeg))), (afre, .inl (cJ, 60, .inr (.inl fre))), (afse, .inl (cI, 60, .inl fse)), (afbio, .inl (cI, 60, .inl fbio)), (afabo, .inl (cI, 32, .inl fabo)), (afhdo, .inl (cI, 60, .inl fhdo)), (afino, .inl (cJ, 60, .inr (.inl fino))), (afjoo, .inl (cJ, 60, .inr (.inl fjoo))), (afnuo, .inl (cI, 60, .inl fnuo)), (afreo, .inl (cJ, 60, .inr (.inl freo))), (afseo, .inl (cI, 60, .inl fseo))] H := hP
    replace hD : va_D A [(h0, .inr (1, [.int nvo, .int nao, .ref afbi, .ref afab, .ref afhd, .ref afin, .ref afjo, .ref afnu, .ref afre, .ref afse])), (h1, .inr (1, [.int nvo, .int nao, .ref afbio, .ref afabo, .ref afhdo, .ref afino, .ref afjoo, .ref afnuo, .ref afreo, .ref afseo])), (afbi, .inl (cI, 60, .inl (va_cpy fbio fbi (0 : Int32).toNatClampNeg (0 : Int32).toNatClampNeg nvo.toNatClampNeg))), (afab, .inl (cI, 32, .inl (va_cpy fabo fab (0 : Int32).toNatClampNeg (0 : Int32).toNatClampNeg nao.toNatClampNeg))), (afhd, .inl (cI, 60, .inl (va_cpy fhdo fhd (0 : Int32).toNatClampNeg (0 : Int32).toNatClampNeg nvo.toNatClampNeg))), (afin, .inl (cJ, 60, .inr (.inl (va_cpy fino fin (0 : Int32).toNatClampNeg (0 : Int32).toNatClampNeg nvo.toNatClampNeg)))), (afjo, .inl (cJ, 60, .inr (.inl (va_cpy fjoo fjo (0 : Int32).toNatClampNeg (0 : Int32).toNatClampNeg nvo.toNatClampNeg)))), (afnu, .inl (cI, 60, .inl (va_cpy fnuo fnu (0 : Int32).toNatClampNeg (0 : Int32).toNatClampNeg nvo.toNatClampNeg))), (afre, .inl (cJ, 60, .inr (.inl fre))), (afse, .inl (cI, 60, .inl fse)), (afbio, .inl (cI, 60, .inl fbio)), (afabo, .inl (cI, 32, .inl fabo)), (afhdo, .inl (cI, 60, .inl fhdo)), (afino, .inl (cJ, 60, .inr (.inl fino))), (afjoo, .inl (cJ, 60, .inr (.inl fjoo))), (afnuo, .inl (cI, 60, .inl fnuo)), (afreo, .inl (cJ, 60, .inr (.inl freo))), (afseo, .inl (cI, 60, .inl fseo))] := hD
    refine lv_aload_n hx hb dX1_takeFrom_118 rfl (lv_at hl 1 rfl) ?_
    refine va_get (D := (dC, dI)) (ci := 1) (v := .ref afreo) (C := RX1) (T := TX1) (N := 10) hx hb hts hw0 hown hK hP 1 rfl rfl 8 (by decide) hw13 (fun _ h9 => h9) rfl dX1_takeFrom_119 ?_
    refine lv_iconst (v := 0) hx hb dX1_takeFrom_122 (by decide) ?_
    refine lv_aload_n hx hb dX1_takeFrom_123 rfl (lv_at hl 0 rfl) ?_
    refine va_get (D := (dC, dI)) (ci := 1) (v := .ref afre) (C := RX1) (T := TX1) (N := 10) hx hb hts hw0 hown hK hP 0 rfl rfl 8 (by decide) hw13 (fun _ h9 => h9) rfl dX1_takeFrom_124 ?_
    refine lv_iconst (v := 0) hx hb dX1_takeFrom_127 (by decide) ?_
    refine lv_aload_n hx hb dX1_takeFrom_128 rfl (lv_at hl 0 rfl) ?_
    refine va_get (D := (dC, dI)) (ci := 1) (v := .int nvo) (C := RX1) (T := TX1) (N := 10) hx hb hts hw0 hown hK hP 0 rfl rfl 0 (by decide) hw1 (fun _ h9 => h9) rfl dX1_takeFrom_129 ?_
    refine va_copyl hx hb (hml.trans hl.1.symm) hown hw4 hw5 hw6 hw7 hK hP hD hS 16 8 1 1 rfl rfl rfl rfl rfl (by decide) (by decide) i1.1 i1.2.1 i1.2.2 (fun _ _ => rfl) (Nat.le_of_ble_eq_true rfl) (Nat.le_of_ble_eq_true rfl) dX1_takeFrom_132 (fun H locs hP hD hS => ?_)
    replace hP : va_P (dC, dI) vwCl [(h0, .inr (1, [.int nvo, .int nao, .ref afbi, .ref afab, .ref afhd, .ref afin, .ref afjo, .ref afnu, .ref afre, .ref afse])), (h1, .inr (1, [.int nvo, .int nao, .ref afbio, .ref afabo, .ref afhdo, .ref afino, .ref afjoo, .ref afnuo, .ref afreo, .ref afseo])), (afbi, .inl (cI, 60, .inl (va_cpy fbio fbi (0 : Int32).toNatClampNeg (0 : Int32).toNatClampNeg nvo.toNatClampNeg))), (afab, .inl (cI, 32, .inl (va_cpy fabo fab (0 : Int32).toNatClampNeg (0 : Int32).toNatClampNeg nao.toNatClampNeg))), (afhd, .inl (cI, 60, .inl (va_cpy fhdo fhd (0 : Int32).toNatClampNeg (0 : Int32).toNatClampNeg nvo.toNatClampNeg))), (afin, .inl (cJ, 60, .inr (.inl (va_cpy fino fin (0 : Int32).toNatClampNeg (0 : Int32).toNatClampNeg nvo.toNatClampNeg)))), (afjo, .inl (cJ, 60, .inr (.inl (va_cpy fjoo fjo (0 : Int32).toNatClampNeg (0 : Int32).toNatClampNeg nvo.toNatClampNeg)))), (afnu, .inl (cI, 60, .inl (va_cpy fnuo fnu (0 : Int32).toNatClampNeg (0 : Int32).toNatClampNeg nvo.toNatClampNeg))), (afre, .inl (cJ, 60, .inr (.inl (va_cpy freo fre (0 : Int32).toNatClampNeg (0 : Int32).toNatClampNeg nvo.toNatClampNeg)))), (afse, .inl (cI, 60, .inl fse)), (afbio, .inl (cI, 60, .inl fbio)), (afabo, .inl (cI, 32, .inl fabo)), (afhdo, .inl (cI, 60, .inl fhdo)), (afino, .inl (cJ, 60, .inr (.inl fino))), (afjoo, .inl (cJ, 60, .inr (.inl fjoo))), (afnuo, .inl (cI, 60, .inl fnuo)), (afreo, .inl (cJ, 60, .inr (.inl freo))), (afseo, .inl (cI, 60, .inl fseo))] H := hP
    replace hD : va_D A [(h0, .inr (1, [.int nvo, .int nao, .ref afbi, .ref afab, .ref afhd, .ref afin, .ref afjo, .ref afnu, .ref afre, .ref afse])), (h1, .inr (1, [.int nvo, .int nao, .ref afbio, .ref afabo, .ref afhdo, .ref afino, .ref afjoo, .ref afnuo, .ref afreo, .ref afseo])), (afbi, .inl (cI, 60, .inl (va_cpy fbio fbi (0 : Int32).toNatClampNeg (0 : Int32).toNatClampNeg nvo.toNatClampNeg))), (afab, .inl (cI, 32, .inl (va_cpy fabo fab (0 : Int32).toNatClampNeg (0 : Int32).toNatClampNeg nao.toNatClampNeg))), (afhd, .inl (cI, 60, .inl (va_cpy fhdo fhd (0 : Int32).toNatClampNeg (0 : Int32).toNatClampNeg nvo.toNatClampNeg))), (afin, .inl (cJ, 60, .inr (.inl (va_cpy fino fin (0 : Int32).toNatClampNeg (0 : Int32).toNatClampNeg nvo.toNatClampNeg)))), (afjo, .inl (cJ, 60, .inr (.inl (va_cpy fjoo fjo (0 : Int32).toNatClampNeg (0 : Int32).toNatClampNeg nvo.toNatClampNeg)))), (afnu, .inl (cI, 60, .inl (va_cpy fnuo fnu (0 : Int32).toNatClampNeg (0 : Int32).toNatClampNeg nvo.toNatClampNeg))), (afre, .inl (cJ, 60, .inr (.inl (va_cpy freo fre (0 : Int32).toNatClampNeg (0 : Int32).toNatClampNeg nvo.toNatClampNeg)))), (afse, .inl (cI, 60, .inl fse)), (afbio, .inl (cI, 60, .inl fbio)), (afabo, .inl (cI, 32, .inl fabo)), (afhdo, .inl (cI, 60, .inl fhdo)), (afino, .inl (cJ, 60, .inr (.inl fino))), (afjoo, .inl (cJ, 60, .inr (.inl fjoo))), (afnuo, .inl (cI, 60, .inl fnuo)), (afreo, .inl (cJ, 60, .inr (.inl freo))), (afseo, .inl (cI, 60, .inl fseo))] := hD
    refine lv_aload_n hx hb dX1_takeFrom_135 rfl (lv_at hl 1 rfl) ?_
    refine va_get (D := (dC, dI)) (ci := 1) (v := .ref afseo) (C := RX1) (T := TX1) (N := 10) hx hb hts hw0 hown hK hP 1 rfl rfl 9 (by decide) hw14 (fun _ h9 => h9) rfl dX1_takeFrom_136 ?_
    refine lv_iconst (v := 0) hx hb dX1_takeFrom_139 (by decide) ?_
    refine lv_aload_n hx hb dX1_takeFrom_140 rfl (lv_at hl 0 rfl) ?_
    refine va_get (D := (dC, dI)) (ci := 1) (v := .ref afse) (C := RX1) (T := TX1) (N := 10) hx hb hts hw0 hown hK hP 0 rfl rfl 9 (by decide) hw14 (fun _ h9 => h9) rfl dX1_takeFrom_141 ?_
    refine lv_iconst (v := 0) hx hb dX1_takeFrom_144 (by decide) ?_
    refine lv_aload_n hx hb dX1_takeFrom_145 rfl (lv_at hl 0 rfl) ?_
    refine va_get (D := (dC, dI)) (ci := 1) (v := .int nvo) (C := RX1) (T := TX1) (N := 10) hx hb hts hw0 hown hK hP 0 rfl rfl 0 (by decide) hw1 (fun _ h9 => h9) rfl dX1_takeFrom_146 ?_
    refine va_copyi hx hb (hml.trans hl.1.symm) hown hw4 hw5 hw6 hw7 hK hP hD hS 17 9 0 0 rfl rfl rfl rfl rfl (by decide) (by decide) i1.1 i1.2.1 i1.2.2 (fun _ _ => rfl) (Nat.le_of_ble_eq_true rfl) (Nat.le_of_ble_eq_true rfl) dX1_takeFrom_149 (fun H locs hP hD hS => ?_)
    replace hP : va_P (dC, dI) vwCl [(h0, .inr (1, [.int nvo, .int nao, .ref afbi, .ref afab, .ref afhd, .ref afin, .ref afjo, .ref afnu, .ref afre, .ref afse])), (h1, .inr (1, [.int nvo, .int nao, .ref afbio, .ref afabo, .ref afhdo, .ref afino, .ref afjoo, .ref afnuo, .ref afreo, .ref afseo])), (afbi, .inl (cI, 60, .inl (va_cpy fbio fbi (0 : Int32).toNatClampNeg (0 : Int32).toNatClampNeg nvo.toNatClampNeg))), (afab, .inl (cI, 32, .inl (va_cpy fabo fab (0 : Int32).toNatClampNeg (0 : Int32).toNatClampNeg nao.toNatClampNeg))), (afhd, .inl (cI, 60, .inl (va_cpy fhdo fhd (0 : Int32).toNatClampNeg (0 : Int32).toNatClampNeg nvo.toNatClampNeg))), (afin, .inl (cJ, 60, .inr (.inl (va_cpy fino fin (0 : Int32).toNatClampNeg (0 : Int32).toNatClampNeg nvo.toNatClampNeg)))), (afjo, .inl (cJ, 60, .inr (.inl (va_cpy fjoo fjo (0 : Int32).toNatClampNeg (0 : Int32).toNatClampNeg nvo.toNatClampNeg)))), (afnu, .inl (cI, 60, .inl (va_cpy fnuo fnu (0 : Int32).toNatClampNeg (0 : Int32).toNatClampNeg nvo.toNatClampNeg))), (afre, .inl (cJ, 60, .inr (.inl (va_cpy freo fre (0 : Int32).toNatClampNeg (0 : Int32).toNatClampNeg nvo.toNatClampNeg)))), (afse, .inl (cI, 60, .inl (va_cpy fseo fse (0 : Int32).toNatClampNeg (0 : Int32).toNatClampNeg nvo.toNatClampNeg))), (afbio, .inl (cI, 60, .inl fbio)), (afabo, .inl (cI, 32, .inl fabo)), (afhdo, .inl (cI, 60, .inl fhdo)), (afino, .inl (cJ, 60, .inr (.inl fino))), (afjoo, .inl (cJ, 60, .inr (.inl fjoo))), (afnuo, .inl (cI, 60, .inl fnuo)), (afreo, .inl (cJ, 60, .inr (.inl freo))), (afseo, .inl (cI, 60, .inl fseo))] H := hP
    replace hD : va_D A [(h0, .inr (1, [.int nvo, .int nao, .ref afbi, .ref afab, .ref afhd, .ref afin, .ref afjo, .ref afnu, .ref afre, .ref afse])), (h1, .inr (1, [.int nvo, .int nao, .ref afbio, .ref afabo, .ref afhdo, .ref afino, .ref afjoo, .ref afnuo, .ref afreo, .ref afseo])), (afbi, .inl (cI, 60, .inl (va_cpy fbio fbi (0 : Int32).toNatClampNeg (0 : Int32).toNatClampNeg nvo.toNatClampNeg))), (afab, .inl (cI, 32, .inl (va_cpy fabo fab (0 : Int32).toNatClampNeg (0 : Int32).toNatClampNeg nao.toNatClampNeg))), (afhd, .inl (cI, 60, .inl (va_cpy fhdo fhd (0 : Int32).toNatClampNeg (0 : Int32).toNatClampNeg nvo.toNatClampNeg))), (afin, .inl (cJ, 60, .inr (.inl (va_cpy fino fin (0 : Int32).toNatClampNeg (0 : Int32).toNatClampNeg nvo.toNatClampNeg)))), (afjo, .inl (cJ, 60, .inr (.inl (va_cpy fjoo fjo (0 : Int32).toNatClampNeg (0 : Int32).toNatClampNeg nvo.toNatClampNeg)))), (afnu, .inl (cI, 60, .inl (va_cpy fnuo fnu (0 : Int32).toNatClampNeg (0 : Int32).toNatClampNeg nvo.toNatClampNeg))), (afre, .inl (cJ, 60, .inr (.inl (va_cpy freo fre (0 : Int32).toNatClampNeg (0 : Int32).toNatClampNeg nvo.toNatClampNeg)))), (afse, .inl (cI, 60, .inl (va_cpy fseo fse (0 : Int32).toNatClampNeg (0 : Int32).toNatClampNeg nvo.toNatClampNeg))), (afbio, .inl (cI, 60, .inl fbio)), (afabo, .inl (cI, 32, .inl fabo)), (afhdo, .inl (cI, 60, .inl fhdo)), (afino, .inl (cJ, 60, .inr (.inl fino))), (afjoo, .inl (cJ, 60, .inr (.inl fjoo))), (afnuo, .inl (cI, 60, .inl fnuo)), (afreo, .inl (cJ, 60, .inr (.inl freo))), (afseo, .inl (cI, 60, .inl fseo))] := hD
    have hP9 : va_P (dC, dI) vwCl [(h0, .inr (1, [.int nvo, .int nao, .ref afbi, .ref afab, .ref afhd, .ref afin, .ref afjo, .ref afnu, .ref afre, .ref afse])), (h1, .inr (1, [.int nvo, .int nao, .ref afbio, .ref afabo, .ref afhdo, .ref afino, .ref afjoo, .ref afnuo, .ref afreo, .ref afseo])), (afbi, .inl (cI, 60, .inl (va_cpy fbio fbi (0 : Int32).toNatClampNeg (0 : Int32).toNatClampNeg nvo.toNatClampNeg))), (afab, .inl (cI, 32, .inl (va_cpy fabo fab (0 : Int32).toNatClampNeg (0 : Int32).toNatClampNeg nao.toNatClampNeg))), (afhd, .inl (cI, 60, .inl (va_cpy fhdo fhd (0 : Int32).toNatClampNeg (0 : Int32).toNatClampNeg nvo.toNatClampNeg))), (afin, .inl (cJ, 60, .inr (.inl (va_cpy fino fin (0 : Int32).toNatClampNeg (0 : Int32).toNatClampNeg nvo.toNatClampNeg)))), (afjo, .inl (cJ, 60, .inr (.inl (va_cpy fjoo fjo (0 : Int32).toNatClampNeg (0 : Int32).toNatClampNeg nvo.toNatClampNeg)))), (afnu, .inl (cI, 60, .inl (va_cpy fnuo fnu (0 : Int32).toNatClampNeg (0 : Int32).toNatClampNeg nvo.toNatClampNeg))), (afre, .inl (cJ, 60, .inr (.inl (va_cpy freo fre (0 : Int32).toNatClampNeg (0 : Int32).toNatClampNeg nvo.toNatClampNeg)))), (afse, .inl (cI, 60, .inl (va_cpy fseo fse (0 : Int32).toNatClampNeg (0 : Int32).toNatClampNeg nvo.toNatClampNeg))), (afbio, .inl (cI, 60, .inl fbio)), (afabo, .inl (cI, 32, .inl fabo)), (afhdo, .inl (cI, 60, .inl fhdo)), (afino, .inl (cJ, 60, .inr (.inl fino))), (afjoo, .inl (cJ, 60, .inr (.inl fjoo))), (afnuo, .inl (cI, 60, .inl fnuo)), (afreo, .inl (cJ, 60, .inr (.inl freo))), (afseo, .inl (cI, 60, .inl fseo))] _ := hP
    have hD9 : va_D A [(h0, .inr (1, [.int nvo, .int nao, .ref afbi, .ref afab, .ref afhd, .ref afin, .ref afjo, .ref afnu, .ref afre, .ref afse])), (h1, .inr (1, [.int nvo, .int nao, .ref afbio, .ref afabo, .ref afhdo, .ref afino, .ref afjoo, .ref afnuo, .ref afreo, .ref afseo])), (afbi, .inl (cI, 60, .inl (va_cpy fbio fbi (0 : Int32).toNatClampNeg (0 : Int32).toNatClampNeg nvo.toNatClampNeg))), (afab, .inl (cI, 32, .inl (va_cpy fabo fab (0 : Int32).toNatClampNeg (0 : Int32).toNatClampNeg nao.toNatClampNeg))), (afhd, .inl (cI, 60, .inl (va_cpy fhdo fhd (0 : Int32).toNatClampNeg (0 : Int32).toNatClampNeg nvo.toNatClampNeg))), (afin, .inl (cJ, 60, .inr (.inl (va_cpy fino fin (0 : Int32).toNatClampNeg (0 : Int32).toNatClampNeg nvo.toNatClampNeg)))), (afjo, .inl (cJ, 60, .inr (.inl (va_cpy fjoo fjo (0 : Int32).toNatClampNeg (0 : Int32).toNatClampNeg nvo.toNatClampNeg)))), (afnu, .inl (cI, 60, .inl (va_cpy fnuo fnu (0 : Int32).toNatClampNeg (0 : Int32).toNatClampNeg nvo.toNatClampNeg))), (afre, .inl (cJ, 60, .inr (.inl (va_cpy freo fre (0 : Int32).toNatClampNeg (0 : Int32).toNatClampNeg nvo.toNatClampNeg)))), (afse, .inl (cI, 60, .inl (va_cpy fseo fse (0 : Int32).toNatClampNeg (0 : Int32).toNatClampNeg nvo.toNatClampNeg))), (afbio, .inl (cI, 60, .inl fbio)), (afabo, .inl (cI, 32, .inl fabo)), (afhdo, .inl (cI, 60, .inl fhdo)), (afino, .inl (cJ, 60, .inr (.inl fino))), (afjoo, .inl (cJ, 60, .inr (.inl fjoo))), (afnuo, .inl (cI, 60, .inl fnuo)), (afreo, .inl (cJ, 60, .inr (.inl freo))), (afseo, .inl (cI, 60, .inl fseo))] := hD
    exact W.vret hx hb hr (fun t ht9 hW => ⟨⟨(nvo, nao, (va_cpy fbio fbi (0 : Int32).toNatClampNeg (0 : Int32).toNatClampNeg nvo.toNatClampNeg), (va_cpy fabo fab (0 : Int32).toNatClampNeg (0 : Int32).toNatClampNeg nao.toNatClampNeg), (va_cpy fhdo fhd (0 : Int32).toNatClampNeg (0 : Int32).toNatClampNeg nvo.toNatClampNeg), (va_cpy fino fin (0 : Int32).toNatClampNeg (0 : Int32).toNatClampNeg nvo.toNatClampNeg), (va_cpy fjoo fjo (0 : Int32).toNatClampNeg (0 : Int32).toNatClampNeg nvo.toNatClampNeg), (va_cpy fnuo fnu (0 : Int32).toNatClampNeg (0 : Int32).toNatClampNeg nvo.toNatClampNeg), (va_cpy freo fre (0 : Int32).toNatClampNeg (0 : Int32).toNatClampNeg nvo.toNatClampNeg), (va_cpy fseo fse (0 : Int32).toNatClampNeg (0 : Int32).toNatClampNeg nvo.toNatClampNeg)), rfl, ht, by rw [ht9]; exact hP9, va_K.moved hW.alike hK, hD9⟩, hS.F ht9⟩) hS.2.2 dX1_takeFrom_152
set_option maxHeartbeats 4000000 in
set_option maxRecDepth 100000 in
theorem c_X1_addVariable (l : Launch) (dC : Nat → ClassId) (dI : Nat → Nat → Nat) (cI cJ : ClassId) (h0 : Nat) (afbi : Nat) (afab : Nat) (afhd : Nat) (afin : Nat) (afjo : Nat) (afnu : Nat) (afre : Nat) (afse : Nat) (nv : Int32) (na : Int32) (fbi : Nat → Int32) (fhd : Nat → Int32) (fin : Nat → Int64) (fjo : Nat → Int64) (fnu : Nat → Int32) (fre : Nat → Int64) (fse : Nat → Int32) (sz : Nat) (p1 : Int32) (post : Int32 → Int32 → (Nat → Int32) → (Nat → Int32) → (Nat → Int64) → (Nat → Int64) → (Nat → Int32) → (Nat → Int64) → (Nat → Int32) → Prop) (hsp : S_X1_addVariable p1 nv fbi fhd fin fjo fnu fre fse post) : Met l yX1_addVariable wsX1_addVariable ({ frames := 1, cells := 0, slots := 0, locals := 20 }) (va_Pc [.ref h0, .int p1] (fun U => U.heap.size = sz ∧ va_P (dC, dI) vwCl [(h0, .inr (1, [.int nv, .int na, .ref afbi, .ref afab, .ref afhd, .ref afin, .ref afjo, .ref afnu, .ref afre, .ref afse])), (afbi, .inl (cI, 60, .inl fbi)), (afhd, .inl (cI, 60, .inl fhd)), (afin, .inl (cJ, 60, .inr (.inl fin))), (afjo, .inl (cJ, 60, .inr (.inl fjo))), (afnu, .inl (cI, 60, .inl fnu)), (afre, .inl (cJ, 60, .inr (.inl fre))), (afse, .inl (cI, 60, .inl fse))] U.heap ∧ va_K (dC, dI) vwCl [(cI, .int), (cJ, .long)] U ∧ va_D (fun _ => True) [(h0, .inr (1, [.int nv, .int na, .ref afbi, .ref afab, .ref afhd, .ref afin, .ref afjo, .ref afnu, .ref afre, .ref afse])), (afbi, .inl (cI, 60, .inl fbi)), (afhd, .inl (cI, 60, .inl fhd)), (afin, .inl (cJ, 60, .inr (.inl fin))), (afjo, .inl (cJ, 60, .inr (.inl fjo))), (afnu, .inl (cI, 60, .inl fnu)), (afre, .inl (cJ, 60, .inr (.inl fre))), (afse, .inl (cI, 60, .inl fse))] ∧ nw U)) (va_Qi (fun (r : Int32) (u : Int32 × (Nat → Int32) × (Nat → Int32) × (Nat → Int64) × (Nat → Int64) × (Nat → Int32) × (Nat → Int64) × (Nat → Int32)) => post r (u.1) (u.2.1) (u.2.2.1) (u.2.2.2.1) (u.2.2.2.2.1) (u.2.2.2.2.2.1) (u.2.2.2.2.2.2.1) (u.2.2.2.2.2.2.2)) (fun (u : Int32 × (Nat → Int32) × (Nat → Int32) × (Nat → Int64) × (Nat → Int64) × (Nat → Int32) × (Nat → Int64) × (Nat → Int32)) (t : State) => va_P (dC, dI) vwCl [(h0, .inr (1, [.int (u.1), .int na, .ref afbi, .ref afab, .ref afhd, .ref afin, .ref afjo, .ref afnu, .ref afre, .ref afse])), (afbi, .inl (cI, 60, .inl (u.2.1))), (afhd, .inl (cI, 60, .inl (u.2.2.1))), (afin, .inl (cJ, 60, .inr (.inl (u.2.2.2.1)))), (afjo, .inl (cJ, 60, .inr (.inl (u.2.2.2.2.1)))), (afnu, .inl (cI, 60, .inl (u.2.2.2.2.2.1))), (afre, .inl (cJ, 60, .inr (.inl (u.2.2.2.2.2.2.1)))), (afse, .inl (cI, 60, .inl (u.2.2.2.2.2.2.2)))] t.heap ∧ va_K (dC, dI) vwCl [(cI, .int), (cJ, .long)] t ∧ va_D (va_A [(h0, .inr (1, [.int nv, .int na, .ref afbi, .ref afab, .ref afhd, .ref afin, .ref afjo, .ref afnu, .ref afre, .ref afse])), (afbi, .inl (cI, 60, .inl fbi)), (afhd, .inl (cI, 60, .inl fhd)), (afin, .inl (cJ, 60, .inr (.inl fin))), (afjo, .inl (cJ, 60, .inr (.inl fjo))), (afnu, .inl (cI, 60, .inl fnu)), (afre, .inl (cJ, 60, .inr (.inl fre))), (afse, .inl (cI, 60, .inl fse))] sz) [(h0, .inr (1, [.int (u.1), .int na, .ref afbi, .ref afab, .ref afhd, .ref afin, .ref afjo, .ref afnu, .ref afre, .ref afse])), (afbi, .inl (cI, 60, .inl (u.2.1))), (afhd, .inl (cI, 60, .inl (u.2.2.1))), (afin, .inl (cJ, 60, .inr (.inl (u.2.2.2.1)))), (afjo, .inl (cJ, 60, .inr (.inl (u.2.2.2.2.1)))), (afnu, .inl (cI, 60, .inl (u.2.2.2.2.2.1))), (afre, .inl (cJ, 60, .inr (.inl (u.2.2.2.2.2.2.1)))), (afse, .inl (cI, 60, .inl (u.2.2.2.2.2.2.2)))]) (va_A [(h0, .inr (1, [.int nv, .int na, .ref afbi, .ref afab, .ref afhd, .ref afin, .ref afjo, .ref afnu, .ref afre, .ref afse])), (afbi, .inl (cI, 60, .inl fbi)), (afhd, .inl (cI, 60, .inl fhd)), (afin, .inl (cJ, 60, .inr (.inl fin))), (afjo, .inl (cJ, 60, .inr (.inl fjo))), (afnu, .inl (cI, 60, .inl fnu)), (afre, .inl (cJ, 60, .inr (.inl fre))), (afse, .inl (cI, 60, .inl fse))] sz)) 0 0 (va_A [(h0, .inr (1, [.int nv, .int na, .ref afbi, .ref afab, .ref afhd, .ref afin, .ref afjo, .ref afnu, .ref afre, .ref afse])), (afbi, .inl (cI, 60, .inl fbi)), (afhd, .inl (cI, 60, .inl fhd)), (afin, .inl (cJ, 60, .inr (.inl fin))), (afjo, .inl (cJ, 60, .inr (.inl fjo))), (afnu, .inl (cI, 60, .inl fnu)), (afre, .inl (cJ, 60, .inr (.inl fre))), (afse, .inl (cI, 60, .inl fse))] sz) := by
  refine Met.ofW (cc := cX1_addVariable) (maxL := 3) (ret := (some .int)) (by decide) rfl ?_
  intro p e s m args below meth c s₁ B hml hv
  obtain ⟨rfl, hsz, hP, hK, hD0, hN⟩ := hv
  have hx := B.exec
  have hb := B.bytes
  have hr := B.returns
  have hts := atoms_spec (ws := wsX1_addVariable) B.pre
  have hown : s.vm.findClass RX1 = some m.cls := findClass_of_methodNamed B.named
  have hlocks := B.notSynchronized
  subst hsz
  have hD := hD0.self (sz := s.heap.size)
  generalize hAe : va_A [(h0, .inr (1, [.int nv, .int na, .ref afbi, .ref afab, .ref afhd, .ref afin, .ref afjo, .ref afnu, .ref afre, .ref afse])), (afbi, .inl (cI, 60, .inl fbi)), (afhd, .inl (cI, 60, .inl fhd)), (afin, .inl (cJ, 60, .inr (.inl fin))), (afjo, .inl (cJ, 60, .inr (.inl fjo))), (afnu, .inl (cI, 60, .inl fnu)), (afre, .inl (cJ, 60, .inr (.inl fre))), (afse, .inl (cI, 60, .inl fse))] s.heap.size = A at hD ⊢
  have hA : ∀ q : Nat, s.heap.size ≤ q → A q := fun q h => by rw [← hAe]; exact Or.inr h
  have hS : va_S A s.heap s.heap [] := va_S.rf
  have hl := lv_entry ([.ref h0, .int p1]) (n := 3) (Nat.le_of_ble_eq_true rfl)
  rw [lg_entry_eq]
  generalize (lg_sl ([.ref h0, .int p1]) ++ List.replicate (3 - (lg_sl ([.ref h0, .int p1])).length) Slot.unset).toArray = ls at hl ⊢
  replace hl : lv_has ls 3 [(0, .ref h0), (1, .int p1)] := hl
  have hw0 := (show ∀ w ∈ wsX10, w ∈ wsX1_addVariable from by decide +kernel)
  have hw1 := hts (.fieldLink RX1 9 "EffectNets$Net" "variables" "I") (by decide +kernel)
  have hw2 := hts (.fieldLink RX1 18 "EffectNets$Net" "births" "[I") (by decide +kernel)
  have hw3 := hts (.fieldLink RX1 25 "EffectNets$Net" "had" "[I") (by decide +kernel)
  have hw4 := hts (.fieldLink RX1 28 "EffectNets$Net" "included" "[J") (by decide +kernel)
  have hw5 := hts (.fieldLink RX1 32 "EffectNets$Net" "joined" "[J") (by decide +kernel)
  have hw6 := hts (.fieldLink RX1 35 "EffectNets$Net" "numbers" "[I") (by decide +kernel)
  have hw7 := hts (.fieldLink RX1 38 "EffectNets$Net" "reached" "[J") (by decide +kernel)
  have hw8 := hts (.initialized RX3) (by decide +kernel)
  have hw9 := hts (.static yX3_bit) (by decide +kernel)
  have hw10 := hts (.fieldLink RX1 41 "EffectNets$Net" "sets" "[I") (by decide +kernel)
  refine hsp _ ?_
  · intro ht
    refine lv_aload_n hx hb dX1_addVariable_0 rfl (lv_at hl 0 rfl) ?_
    refine va_get (D := (dC, dI)) (ci := 1) (v := .int nv) (C := RX1) (T := TX1) (N := 10) hx hb hts hw0 hown hK hP 0 rfl rfl 0 (by decide) hw1 (fun _ h9 => h9) rfl dX1_addVariable_1 ?_
    refine lv_bipush (v := 60) hx hb dX1_addVariable_4 (by decide) ?_
    refine lv_icmp_lt (tgt := 11) hx hb dX1_addVariable_6 (by decide) (fun c1 => ?_) (fun c1 => ?_)
    · replace ht := ht.1 c1
      refine lv_aload_n hx hb dX1_addVariable_11 rfl (lv_at hl 0 rfl) ?_
      refine va_get (D := (dC, dI)) (ci := 1) (v := .int nv) (C := RX1) (T := TX1) (N := 10) hx hb hts hw0 hown hK hP 0 rfl rfl 0 (by decide) hw1 (fun _ h9 => h9) rfl dX1_addVariable_12 ?_
      refine lv_istore_n (lv' := [(2, .int nv), (0, .ref h0), (1, .int p1)]) hx hb dX1_addVariable_15 rfl hl (by decide) rfl (fun ls hl => ?_)
      refine lv_aload_n hx hb dX1_addVariable_16 rfl (lv_at hl 1 rfl) ?_
      refine va_get (D := (dC, dI)) (ci := 1) (v := .ref afbi) (C := RX1) (T := TX1) (N := 10) hx hb hts hw0 hown hK hP 0 rfl rfl 2 (by decide) hw2 (fun _ h9 => h9) rfl dX1_addVariable_17 ?_
      refine lv_iload_n hx hb dX1_addVariable_20 rfl (lv_at hl 0 rfl) ?_
      refine lv_iload_n hx hb dX1_addVariable_21 rfl (lv_at hl 2 rfl) ?_
      obtain ⟨i2, ht⟩ := ht
      refine va_iast hx hb hK hP hD hS 1 0 rfl rfl i2 dX1_addVariable_22 (fun H locs hP hD hS => ?_)
      replace hP : va_P (dC, dI) vwCl [(h0, .inr (1, [.int nv, .int na, .ref afbi, .ref afab, .ref afhd, .ref afin, .ref afjo, .ref afnu, .ref afre, .ref afse])), (afbi, .inl (cI, 60, .inl (upd fbi nv.toNatClampNeg p1))), (afhd, .inl (cI, 60, .inl fhd)), (afin, .inl (cJ, 60, .inr (.inl fin))), (afjo, .inl (cJ, 60, .inr (.inl fjo))), (afnu, .inl (cI, 60, .inl fnu)), (afre, .inl (cJ, 60, .inr (.inl fre))), (afse, .inl (cI, 60, .inl fse))] H := hP
      replace hD : va_D A [(h0, .inr (1, [.int nv, .int na, .ref afbi, .ref afab, .ref afhd, .ref afin, .ref afjo, .ref afnu, .ref afre, .ref afse])), (afbi, .inl (cI, 60, .inl (upd fbi nv.toNatClampNeg p1))), (afhd, .inl (cI, 60, .inl fhd)), (afin, .inl (cJ, 60, .inr (.inl fin))), (afjo, .inl (cJ, 60, .inr (.inl fjo))), (afnu, .inl (cI, 60, .inl fnu)), (afre, .inl (cJ, 60, .inr (.inl fre))), (afse, .inl (cI, 60, .inl fse))] := hD
      refine lv_aload_n hx hb dX1_addVariable_23 rfl (lv_at hl 1 rfl) ?_
      refine va_get (D := (dC, dI)) (ci := 1) (v := .ref afhd) (C := RX1) (T := TX1) (N := 10) hx hb hts hw0 hown hK hP 0 rfl rfl 4 (by decide) hw3 (fun _ h9 => h9) rfl dX1_addVariable_24 ?_
      refine lv_iload_n hx hb dX1_addVariable_27 rfl (lv_at hl 0 rfl) ?_
      refine lv_iconst (v := 0) hx hb dX1_addVariable_28 (by decide) ?_
      refine va_iast hx hb hK hP hD hS 2 0 rfl rfl i2 dX1_addVariable_29 (fun H locs hP hD hS => ?_)
      replace hP : va_P (dC, dI) vwCl [(h0, .inr (1, [.int nv, .int na, .ref afbi, .ref afab, .ref afhd, .ref afin, .ref afjo, .ref afnu, .ref afre, .ref afse])), (afbi, .inl (cI, 60, .inl (upd fbi nv.toNatClampNeg p1))), (afhd, .inl (cI, 60, .inl (upd fhd nv.toNatClampNeg 0))), (afin, .inl (cJ, 60, .inr (.inl fin))), (afjo, .inl (cJ, 60, .inr (.inl fjo))), (afnu, .inl (cI, 60, .inl fnu)), (afre, .inl (cJ, 60, .inr (.inl fre))), (afse, .inl (cI, 60, .inl fse))] H := hP
      replace hD : va_D A [(h0, .inr (1, [.int nv, .int na, .ref afbi, .ref afab, .ref afhd, .ref afin, .ref afjo, .ref afnu, .ref afre, .ref afse])), (afbi, .inl (cI, 60, .inl (upd fbi nv.toNatClampNeg p1))), (afhd, .inl (cI, 60, .inl (upd fhd nv.toNatClampNeg 0))), (afin, .inl (cJ, 60, .inr (.inl fin))), (afjo, .inl (cJ, 60, .inr (.inl fjo))), (afnu, .inl (cI, 60, .inl fnu)), (afre, .inl (cJ, 60, .inr (.inl fre))), (afse, .inl (cI, 60, .inl fse))] := hD
      refine lv_aload_n hx hb dX1_addVariable_30 rfl (lv_at hl 1 rfl) ?_
      refine va_get (D := (dC, dI)) (ci := 1) (v := .ref afin) (C := RX1) (T := TX1) (N := 10) hx hb hts hw0 hown hK hP 0 rfl rfl 5 (by decide) hw4 (fun _ h9 => h9) rfl dX1_addVariable_31 ?_
      refine lv_iload_n hx hb dX1_addVariable_34 rfl (lv_at hl 0 rfl) ?_
      refine lv_lconst (v := 0) hx hb dX1_addVariable_35 rfl ?_
      refine va_last hx hb hK hP hD hS 3 1 rfl rfl i2 dX1_addVariable_36 (fun H locs hP hD hS => ?_)
      replace hP : va_P (dC, dI) vwCl [(h0, .inr (1, [.int nv, .int na, .ref afbi, .ref afab, .ref afhd, .ref afin, .ref afjo, .ref afnu, .ref afre, .ref afse])), (afbi, .inl (cI, 60, .inl (upd fbi nv.toNatClampNeg p1))), (afhd, .inl (cI, 60, .inl (upd fhd nv.toNatClampNeg 0))), (afin, .inl (cJ, 60, .inr (.inl (vp_updL fin nv.toNatClampNeg 0)))), (afjo, .inl (cJ, 60, .inr (.inl fjo))), (afnu, .inl (cI, 60, .inl fnu)), (afre, .inl (cJ, 60, .inr (.inl fre))), (afse, .inl (cI, 60, .inl fse))] H := hP
      replace hD : va_D A [(h0, .inr (1, [.int nv, .int na, .ref afbi, .ref afab, .ref afhd, .ref afin, .ref afjo, .ref afnu, .ref afre, .ref afse])), (afbi, .inl (cI, 60, .inl (upd fbi nv.toNatClampNeg p1))), (afhd, .inl (cI, 60, .inl (upd fhd nv.toNatClampNeg 0))), (afin, .inl (cJ, 60, .inr (.inl (vp_updL fin nv.toNatClampNeg 0)))), (afjo, .inl (cJ, 60, .inr (.inl fjo))), (afnu, .inl (cI, 60, .inl fnu)), (afre, .inl (cJ, 60, .inr (.inl fre))), (afse, .inl (cI, 60, .inl fse))] := hD
      refine lv_aload_n hx hb dX1_addVariable_37 rfl (lv_at hl 1 rfl) ?_
      refine va_get (D := (dC, dI)) (ci := 1) (v := .ref afjo) (C := RX1) (T := TX1) (N := 10) hx hb hts hw0 hown hK hP 0 rfl rfl 6 (by decide) hw5 (fun _ h9 => h9) rfl dX1_addVariable_38 ?_
      refine lv_iload_n hx hb dX1_addVariable_41 rfl (lv_at hl 0 rfl) ?_
      refine lv_lconst (v := 0) hx hb dX1_addVariable_42 rfl ?_
      refine va_last hx hb hK hP hD hS 4 1 rfl rfl i2 dX1_addVariable_43 (fun H locs hP hD hS => ?_)
      replace hP : va_P (dC, dI) vwCl [(h0, .inr (1, [.int nv, .int na, .ref afbi, .ref afab, .ref afhd, .ref afin, .ref afjo, .ref afnu, .ref afre, .ref afse])), (afbi, .inl (cI, 60, .inl (upd fbi nv.toNatClampNeg p1))), (afhd, .inl (cI, 60, .inl (upd fhd nv.toNatClampNeg 0))), (afin, .inl (cJ, 60, .inr (.inl (vp_updL fin nv.toNatClampNeg 0)))), (afjo, .inl (cJ, 60, .inr (.inl (vp_updL fjo nv.toNatClampNeg 0)))), (afnu, .inl (cI, 60, .inl fnu)), (afre, .inl (cJ, 60, .inr (.inl fre))), (afse, .inl (cI, 60, .inl fse))] H := hP
      replace hD : va_D A [(h0, .inr (1, [.int nv, .int na, .ref afbi, .ref afab, .ref afhd, .ref afin, .ref afjo, .ref afnu, .ref afre, .ref afse])), (afbi, .inl (cI, 60, .inl (upd fbi nv.toNatClampNeg p1))), (afhd, .inl (cI, 60, .inl (upd fhd nv.toNatClampNeg 0))), (afin, .inl (cJ, 60, .inr (.inl (vp_updL fin nv.toNatClampNeg 0)))), (afjo, .inl (cJ, 60, .inr (.inl (vp_updL fjo nv.toNatClampNeg 0)))), (afnu, .inl (cI, 60, .inl fnu)), (afre, .inl (cJ, 60, .inr (.inl fre))), (afse, .inl (cI, 60, .inl fse))] := hD
      refine lv_aload_n hx hb dX1_addVariable_44 rfl (lv_at hl 1 rfl) ?_
      refine va_get (D := (dC, dI)) (ci := 1) (v := .ref afnu) (C := RX1) (T := TX1) (N := 10) hx hb hts hw0 hown hK hP 0 rfl rfl 7 (by decide) hw6 (fun _ h9 => h9) rfl dX1_addVariable_45 ?_
      refine lv_iload_n hx hb dX1_addVariable_48 rfl (lv_at hl 0 rfl) ?_
      refine lv_iload_n hx hb dX1_addVariable_49 rfl (lv_at hl 0 rfl) ?_
      refine va_iast hx hb hK hP hD hS 5 0 rfl rfl i2 dX1_addVariable_50 (fun H locs hP hD hS => ?_)
      replace hP : va_P (dC, dI) vwCl [(h0, .inr (1, [.int nv, .int na, .ref afbi, .ref afab, .ref afhd, .ref afin, .ref afjo, .ref afnu, .ref afre, .ref afse])), (afbi, .inl (cI, 60, .inl (upd fbi nv.toNatClampNeg p1))), (afhd, .inl (cI, 60, .inl (upd fhd nv.toNatClampNeg 0))), (afin, .inl (cJ, 60, .inr (.inl (vp_updL fin nv.toNatClampNeg 0)))), (afjo, .inl (cJ, 60, .inr (.inl (vp_updL fjo nv.toNatClampNeg 0)))), (afnu, .inl (cI, 60, .inl (upd fnu nv.toNatClampNeg nv))), (afre, .inl (cJ, 60, .inr (.inl fre))), (afse, .inl (cI, 60, .inl fse))] H := hP
      replace hD : va_D A [(h0, .inr (1, [.int nv, .int na, .ref afbi, .ref afab, .ref afhd, .ref afin, .ref afjo, .ref afnu, .ref afre, .ref afse])), (afbi, .inl (cI, 60, .inl (upd fbi nv.toNatClampNeg p1))), (afhd, .inl (cI, 60, .inl (upd fhd nv.toNatClampNeg 0))), (afin, .inl (cJ, 60, .inr (.inl (vp_updL fin nv.toNatClampNeg 0)))), (afjo, .inl (cJ, 60, .inr (.inl (vp_updL fjo nv.toNatClampNeg 0)))), (afnu, .inl (cI, 60, .inl (upd fnu nv.toNatClampNeg nv))), (afre, .inl (cJ, 60, .inr (.inl fre))), (afse, .inl (cI, 60, .inl fse))] := hD
      refine lv_aload_n hx hb dX1_addVariable_51 rfl (lv_at hl 1 rfl) ?_
      refine va_get (D := (dC, dI)) (ci := 1) (v := .ref afre) (C := RX1) (T := TX1) (N := 10) hx hb hts hw0 hown hK hP 0 rfl rfl 8 (by decide) hw7 (fun _ h9 => h9) rfl dX1_addVariable_52 ?_
      refine lv_iload_n hx hb dX1_addVariable_55 rfl (lv_at hl 0 rfl) ?_
      refine lv_iload_n hx hb dX1_addVariable_56 rfl (lv_at hl 0 rfl) ?_
      have hPc := hP.sub (ws' := []) [] rfl
      have hDc := hD.sub (ws' := []) [] (by decide) rfl
      have hFc := va_free (wc := []) hD hS hA [] rfl
      refine va_calll (va_runSN (As := [.int nv]) (rest := [.int nv, .ref afre]) ⟨hx, hb, hml, hown, hts⟩ (c_X3_bit l dC dI cI cJ  H.size nv _ ht) ⟨va_cnB 1 hts gX1_addVariable_X3_bit_n50 rfl rfl rfl hN.2.2.2.1 hw8 (by decide +kernel) ⟨Nat.le_of_ble_eq_true rfl, Nat.le_of_ble_eq_true rfl⟩, hw9, trivial⟩ ⟨fun a U g mk q => by obtain ⟨q0, q1, qP, qK, qD, qN⟩ := q; exact ⟨q0, q1, qP, va_K.moved (u := U) (U := U.calling g mk a) (Vm.Alike.refl U.vm) qK, qD, nw_same rfl qN⟩, fun U hU hW => ⟨rfl, by rw [hU], by rw [hU]; exact hPc, va_K.moved hW.alike hK, hDc.weaken (fun _ _ _ _ => trivial), nw_warm hW hN⟩⟩ rfl rfl hl.1 rfl (lv_room (Nat.le_of_ble_eq_true rfl)) dX1_addVariable_57 ⟨Nat.le_of_ble_eq_true rfl, Nat.le_of_ble_eq_true rfl⟩) hS (fun q _ h => hFc q h) hFc (fun r3 u t H1 locs ht9 hvm hw hB hz1 hk1 hS => ?_)
      obtain ⟨hP1, hK1, hD1⟩ := hB
      rw [ht9] at hP1
      try dsimp only at hw
      replace ht := hw
      obtain ⟨hP, hD⟩ := va_join (wr := [(h0, .inr (1, [.int nv, .int na, .ref afbi, .ref afab, .ref afhd, .ref afin, .ref afjo, .ref afnu, .ref afre, .ref afse])), (afbi, .inl (cI, 60, .inl (upd fbi nv.toNatClampNeg p1))), (afhd, .inl (cI, 60, .inl (upd fhd nv.toNatClampNeg 0))), (afin, .inl (cJ, 60, .inr (.inl (vp_updL fin nv.toNatClampNeg 0)))), (afjo, .inl (cJ, 60, .inr (.inl (vp_updL fjo nv.toNatClampNeg 0)))), (afnu, .inl (cI, 60, .inl (upd fnu nv.toNatClampNeg nv))), (afre, .inl (cJ, 60, .inr (.inl fre))), (afse, .inl (cI, 60, .inl fse))]) (w1 := []) hP hD [] [0, 1, 2, 3, 4, 5, 6, 7] rfl rfl (by decide) (by decide) hk1 hFc hP1 hD1
      generalize H1 = H at hP hS ⊢
      replace hP : va_P (dC, dI) vwCl [(h0, .inr (1, [.int nv, .int na, .ref afbi, .ref afab, .ref afhd, .ref afin, .ref afjo, .ref afnu, .ref afre, .ref afse])), (afbi, .inl (cI, 60, .inl (upd fbi nv.toNatClampNeg p1))), (afhd, .inl (cI, 60, .inl (upd fhd nv.toNatClampNeg 0))), (afin, .inl (cJ, 60, .inr (.inl (vp_updL fin nv.toNatClampNeg 0)))), (afjo, .inl (cJ, 60, .inr (.inl (vp_updL fjo nv.toNatClampNeg 0)))), (afnu, .inl (cI, 60, .inl (upd fnu nv.toNatClampNeg nv))), (afre, .inl (cJ, 60, .inr (.inl fre))), (afse, .inl (cI, 60, .inl fse))] H := hP
      replace hD : va_D A [(h0, .inr (1, [.int nv, .int na, .ref afbi, .ref afab, .ref afhd, .ref afin, .ref afjo, .ref afnu, .ref afre, .ref afse])), (afbi, .inl (cI, 60, .inl (upd fbi nv.toNatClampNeg p1))), (afhd, .inl (cI, 60, .inl (upd fhd nv.toNatClampNeg 0))), (afin, .inl (cJ, 60, .inr (.inl (vp_updL fin nv.toNatClampNeg 0)))), (afjo, .inl (cJ, 60, .inr (.inl (vp_updL fjo nv.toNatClampNeg 0)))), (afnu, .inl (cI, 60, .inl (upd fnu nv.toNatClampNeg nv))), (afre, .inl (cJ, 60, .inr (.inl fre))), (afse, .inl (cI, 60, .inl fse))] := hD
      refine va_last hx hb hK hP hD hS 6 1 rfl rfl i2 dX1_addVariable_60 (fun H locs hP hD hS => ?_)
      replace hP : va_P (dC, dI) vwCl [(h0, .inr (1, [.int nv, .int na, .ref afbi, .ref afab, .ref afhd, .ref afin, .ref afjo, .ref afnu, .ref afre, .ref afse])), (afbi, .inl (cI, 60, .inl (upd fbi nv.toNatClampNeg p1))), (afhd, .inl (cI, 60, .inl (upd fhd nv.toNatClampNeg 0))), (afin, .inl (cJ, 60, .inr (.inl (vp_updL fin nv.toNatClampNeg 0)))), (afjo, .inl (cJ, 60, .inr (.inl (vp_updL fjo nv.toNatClampNeg 0)))), (afnu, .inl (cI, 60, .inl (upd fnu nv.toNatClampNeg nv))), (afre, .inl (cJ, 60, .inr (.inl (vp_updL fre nv.toNatClampNeg r3)))), (afse, .inl (cI, 60, .inl fse))] H := hP
      replace hD : va_D A [(h0, .inr (1, [.int nv, .int na, .ref afbi, .ref afab, .ref afhd, .ref afin, .ref afjo, .ref afnu, .ref afre, .ref afse])), (afbi, .inl (cI, 60, .inl (upd fbi nv.toNatClampNeg p1))), (afhd, .inl (cI, 60, .inl (upd fhd nv.toNatClampNeg 0))), (afin, .inl (cJ, 60, .inr (.inl (vp_updL fin nv.toNatClampNeg 0)))), (afjo, .inl (cJ, 60, .inr (.inl (vp_updL fjo nv.toNatClampNeg 0)))), (afnu, .inl (cI, 60, .inl (upd fnu nv.toNatClampNeg nv))), (afre, .inl (cJ, 60, .inr (.inl (vp_updL fre nv.toNatClampNeg r3)))), (afse, .inl (cI, 60, .inl fse))] := hD
      refine lv_aload_n hx hb dX1_addVariable_61 rfl (lv_at hl 1 rfl) ?_
      refine va_get (D := (dC, dI)) (ci := 1) (v := .ref afse) (C := RX1) (T := TX1) (N := 10) hx hb hts hw0 hown hK hP 0 rfl rfl 9 (by decide) hw10 (fun _ h9 => h9) rfl dX1_addVariable_62 ?_
      refine lv_iload_n hx hb dX1_addVariable_65 rfl (lv_at hl 0 rfl) ?_
      refine lv_iconst (v := 0) hx hb dX1_addVariable_66 (by decide) ?_
      refine va_iast hx hb hK hP hD hS 7 0 rfl rfl i2 dX1_addVariable_67 (fun H locs hP hD hS => ?_)
      replace hP : va_P (dC, dI) vwCl [(h0, .inr (1, [.int nv, .int na, .ref afbi, .ref afab, .ref afhd, .ref afin, .ref afjo, .ref afnu, .ref afre, .ref afse])), (afbi, .inl (cI, 60, .inl (upd fbi nv.toNatClampNeg p1))), (afhd, .inl (cI, 60, .inl (upd fhd nv.toNatClampNeg 0))), (afin, .inl (cJ, 60, .inr (.inl (vp_updL fin nv.toNatClampNeg 0)))), (afjo, .inl (cJ, 60, .inr (.inl (vp_updL fjo nv.toNatClampNeg 0)))), (afnu, .inl (cI, 60, .inl (upd fnu nv.toNatClampNeg nv))), (afre, .inl (cJ, 60, .inr (.inl (vp_updL fre nv.toNatClampNeg r3)))), (afse, .inl (cI, 60, .inl (upd fse nv.toNatClampNeg 0)))] H := hP
      replace hD : va_D A [(h0, .inr (1, [.int nv, .int na, .ref afbi, .ref afab, .ref afhd, .ref afin, .ref afjo, .ref afnu, .ref afre, .ref afse])), (afbi, .inl (cI, 60, .inl (upd fbi nv.toNatClampNeg p1))), (afhd, .inl (cI, 60, .inl (upd fhd nv.toNatClampNeg 0))), (afin, .inl (cJ, 60, .inr (.inl (vp_updL fin nv.toNatClampNeg 0)))), (afjo, .inl (cJ, 60, .inr (.inl (vp_updL fjo nv.toNatClampNeg 0)))), (afnu, .inl (cI, 60, .inl (upd fnu nv.toNatClampNeg nv))), (afre, .inl (cJ, 60, .inr (.inl (vp_updL fre nv.toNatClampNeg r3)))), (afse, .inl (cI, 60, .inl (upd fse nv.toNatClampNeg 0)))] := hD
      refine lv_aload_n hx hb dX1_addVariable_68 rfl (lv_at hl 1 rfl) ?_
      refine lv_dup hx hb dX1_addVariable_69 rfl ?_
      refine va_get (D := (dC, dI)) (ci := 1) (v := .int nv) (C := RX1) (T := TX1) (N := 10) hx hb hts hw0 hown hK hP 0 rfl rfl 0 (by decide) hw1 (fun _ h9 => h9) rfl dX1_addVariable_70 ?_
      refine lv_iconst (v := 1) hx hb dX1_addVariable_73 (by decide) ?_
      refine lv_iadd hx hb dX1_addVariable_74 ?_
      refine lv_topi (fun y4 ey4 => ?_)
      replace ht := ht y4 ey4
      refine va_put (D := (dC, dI)) (ci := 1) (v := .int y4) (ty := .int) (C := RX1) (T := TX1) (N := 10) hx hb hts hw0 tyX1 tyX1_ok nmX1 hown hK hP hD hS 0 rfl rfl 0 (by decide) hw1 (fun _ h9 => h9) rfl (by decide +kernel) rfl rfl (Nat.le_of_ble_eq_true rfl) dX1_addVariable_75 (fun H locs hP hD hS => ?_)
      replace hP : va_P (dC, dI) vwCl [(h0, .inr (1, [.int y4, .int na, .ref afbi, .ref afab, .ref afhd, .ref afin, .ref afjo, .ref afnu, .ref afre, .ref afse])), (afbi, .inl (cI, 60, .inl (upd fbi nv.toNatClampNeg p1))), (afhd, .inl (cI, 60, .inl (upd fhd nv.toNatClampNeg 0))), (afin, .inl (cJ, 60, .inr (.inl (vp_updL fin nv.toNatClampNeg 0)))), (afjo, .inl (cJ, 60, .inr (.inl (vp_updL fjo nv.toNatClampNeg 0)))), (afnu, .inl (cI, 60, .inl (upd fnu nv.toNatClampNeg nv))), (afre, .inl (cJ, 60, .inr (.inl (vp_updL fre nv.toNatClampNeg r3)))), (afse, .inl (cI, 60, .inl (upd fse nv.toNatClampNeg 0)))] H := hP
      replace hD : va_D A [(h0, .inr (1, [.int y4, .int na, .ref afbi, .ref afab, .ref afhd, .ref afin, .ref afjo, .ref afnu, .ref afre, .ref afse])), (afbi, .inl (cI, 60, .inl (upd fbi nv.toNatClampNeg p1))), (afhd, .inl (cI, 60, .inl (upd fhd nv.toNatClampNeg 0))), (afin, .inl (cJ, 60, .inr (.inl (vp_updL fin nv.toNatClampNeg 0)))), (afjo, .inl (cJ, 60, .inr (.inl (vp_updL fjo nv.toNatClampNeg 0)))), (afnu, .inl (cI, 60, .inl (upd fnu nv.toNatClampNeg nv))), (afre, .inl (cJ, 60, .inr (.inl (vp_updL fre nv.toNatClampNeg r3)))), (afse, .inl (cI, 60, .inl (upd fse nv.toNatClampNeg 0)))] := hD
      refine lv_iload_n hx hb dX1_addVariable_78 rfl (lv_at hl 0 rfl) ?_
      have hP9 : va_P (dC, dI) vwCl [(h0, .inr (1, [.int y4, .int na, .ref afbi, .ref afab, .ref afhd, .ref afin, .ref afjo, .ref afnu, .ref afre, .ref afse])), (afbi, .inl (cI, 60, .inl (upd fbi nv.toNatClampNeg p1))), (afhd, .inl (cI, 60, .inl (upd fhd nv.toNatClampNeg 0))), (afin, .inl (cJ, 60, .inr (.inl (vp_updL fin nv.toNatClampNeg 0)))), (afjo, .inl (cJ, 60, .inr (.inl (vp_updL fjo nv.toNatClampNeg 0)))), (afnu, .inl (cI, 60, .inl (upd fnu nv.toNatClampNeg nv))), (afre, .inl (cJ, 60, .inr (.inl (vp_updL fre nv.toNatClampNeg r3)))), (afse, .inl (cI, 60, .inl (upd fse nv.toNatClampNeg 0)))] _ := hP
      have hD9 : va_D A [(h0, .inr (1, [.int y4, .int na, .ref afbi, .ref afab, .ref afhd, .ref afin, .ref afjo, .ref afnu, .ref afre, .ref afse])), (afbi, .inl (cI, 60, .inl (upd fbi nv.toNatClampNeg p1))), (afhd, .inl (cI, 60, .inl (upd fhd nv.toNatClampNeg 0))), (afin, .inl (cJ, 60, .inr (.inl (vp_updL fin nv.toNatClampNeg 0)))), (afjo, .inl (cJ, 60, .inr (.inl (vp_updL fjo nv.toNatClampNeg 0)))), (afnu, .inl (cI, 60, .inl (upd fnu nv.toNatClampNeg nv))), (afre, .inl (cJ, 60, .inr (.inl (vp_updL fre nv.toNatClampNeg r3)))), (afse, .inl (cI, 60, .inl (upd fse nv.toNatClampNeg 0)))] := hD
      exact W.iret (v := nv) hx hb hr (fun t ht9 hW => ⟨⟨nv, (y4, (upd fbi nv.toNatClampNeg p1), (upd fhd nv.toNatClampNeg 0), (vp_updL fin nv.toNatClampNeg 0), (vp_updL fjo nv.toNatClampNeg 0), (upd fnu nv.toNatClampNeg nv), (vp_updL fre nv.toNatClampNeg r3), (upd fse nv.toNatClampNeg 0)), rfl, ht, by rw [ht9]; exact hP9, va_K.moved hW.alike hK, hD9⟩, hS.F ht9⟩) hS.2.2 dX1_addVariable_79
    · replace ht := ht.2 c1
      refine lv_iconst (v := (-1)) hx hb dX1_addVariable_9 (by decide) ?_
      have hP9 : va_P (dC, dI) vwCl [(h0, .inr (1, [.int nv, .int na, .ref afbi, .ref afab, .ref afhd, .ref afin, .ref afjo, .ref afnu, .ref afre, .ref afse])), (afbi, .inl (cI, 60, .inl fbi)), (afhd, .inl (cI, 60, .inl fhd)), (afin, .inl (cJ, 60, .inr (.inl fin))), (afjo, .inl (cJ, 60, .inr (.inl fjo))), (afnu, .inl (cI, 60, .inl fnu)), (afre, .inl (cJ, 60, .inr (.inl fre))), (afse, .inl (cI, 60, .inl fse))] _ := hP
      have hD9 : va_D A [(h0, .inr (1, [.int nv, .int na, .ref afbi, .ref afab, .ref afhd, .ref afin, .ref afjo, .ref afnu, .ref afre, .ref afse])), (afbi, .inl (cI, 60, .inl fbi)), (afhd, .inl (cI, 60, .inl fhd)), (afin, .inl (cJ, 60, .inr (.inl fin))), (afjo, .inl (cJ, 60, .inr (.inl fjo))), (afnu, .inl (cI, 60, .inl fnu)), (afre, .inl (cJ, 60, .inr (.inl fre))), (afse, .inl (cI, 60, .inl fse))] := hD
      exact W.iret (v := (-1)) hx hb hr (fun t ht9 hW => ⟨⟨(-1), (nv, fbi, fhd, fin, fjo, fnu, fre, fse), rfl, ht, by rw [ht9]; exact hP9, va_K.moved hW.alike hK, hD9⟩, hS.F ht9⟩) hS.2.2 dX1_addVariable_10
set_option maxHeartbeats 4000000 in
set_option maxRecDepth 100000 in
theorem c_X1_addAtom (l : Launch) (dC : Nat → ClassId) (dI : Nat → Nat → Nat) (cI cJ : ClassId) (h0 : Nat) (afbi : Nat) (afab : Nat) (afhd : Nat) (afin : Nat) (afjo : Nat) (afnu : Nat) (afre : Nat) (afse : Nat) (nv : Int32) (na : Int32) (fab : Nat → Int32) (sz : Nat) (p1 : Int32) (post : Int32 → Int32 → (Nat → Int32) → Prop) (hsp : S_X1_addAtom p1 na fab post) : Met l yX1_addAtom wsX1_addAtom ({ frames := 0, cells := 0, slots := 0, locals := 0 }) (va_Pc [.ref h0, .int p1] (fun U => U.heap.size = sz ∧ va_P (dC, dI) vwCl [(h0, .inr (1, [.int nv, .int na, .ref afbi, .ref afab, .ref afhd, .ref afin, .ref afjo, .ref afnu, .ref afre, .ref afse])), (afab, .inl (cI, 32, .inl fab))] U.heap ∧ va_K (dC, dI) vwCl [(cI, .int), (cJ, .long)] U ∧ va_D (fun _ => True) [(h0, .inr (1, [.int nv, .int na, .ref afbi, .ref afab, .ref afhd, .ref afin, .ref afjo, .ref afnu, .ref afre, .ref afse])), (afab, .inl (cI, 32, .inl fab))] ∧ nw U)) (va_Qi (fun (r : Int32) (u : Int32 × (Nat → Int32)) => post r (u.1) (u.2)) (fun (u : Int32 × (Nat → Int32)) (t : State) => va_P (dC, dI) vwCl [(h0, .inr (1, [.int nv, .int (u.1), .ref afbi, .ref afab, .ref afhd, .ref afin, .ref afjo, .ref afnu, .ref afre, .ref afse])), (afab, .inl (cI, 32, .inl (u.2)))] t.heap ∧ va_K (dC, dI) vwCl [(cI, .int), (cJ, .long)] t ∧ va_D (va_A [(h0, .inr (1, [.int nv, .int na, .ref afbi, .ref afab, .ref afhd, .ref afin, .ref afjo, .ref afnu, .ref afre, .ref afse])), (afab, .inl (cI, 32, .inl fab))] sz) [(h0, .inr (1, [.int nv, .int (u.1), .ref afbi, .ref afab, .ref afhd, .ref afin, .ref afjo, .ref afnu, .ref afre, .ref afse])), (afab, .inl (cI, 32, .inl (u.2)))]) (va_A [(h0, .inr (1, [.int nv, .int na, .ref afbi, .ref afab, .ref afhd, .ref afin, .ref afjo, .ref afnu, .ref afre, .ref afse])), (afab, .inl (cI, 32, .inl fab))] sz)) 0 0 (va_A [(h0, .inr (1, [.int nv, .int na, .ref afbi, .ref afab, .ref afhd, .ref afin, .ref afjo, .ref afnu, .ref afre, .ref afse])), (afab, .inl (cI, 32, .inl fab))] sz) := by
  refine Met.ofW (cc := cX1_addAtom) (maxL := 3) (ret := (some .int)) (by decide) rfl ?_
  intro p e s m args below meth c s₁ B hml hv
  obtain ⟨rfl, hsz, hP, hK, hD0, hN⟩ := hv
  have hx := B.exec
  have hb := B.bytes
  have hr := B.returns
  have hts := atoms_spec (ws := wsX1_addAtom) B.pre
  have hown : s.vm.findClass RX1 = some m.cls := findClass_of_methodNamed B.named
  have hlocks := B.notSynchronized
  subst hsz
  have hD := hD0.self (sz := s.heap.size)
  generalize hAe : va_A [(h0, .inr (1, [.int nv, .int na, .ref afbi, .ref afab, .ref afhd, .ref afin, .ref afjo, .ref afnu, .ref afre, .ref afse])), (afab, .inl (cI, 32, .inl fab))] s.heap.size = A at hD ⊢
  have hA : ∀ q : Nat, s.heap.size ≤ q → A q := fun q h => by rw [← hAe]; exact Or.inr h
  have hS : va_S A s.heap s.heap [] := va_S.rf
  have hl := lv_entry ([.ref h0, .int p1]) (n := 3) (Nat.le_of_ble_eq_true rfl)
  rw [lg_entry_eq]
  generalize (lg_sl ([.ref h0, .int p1]) ++ List.replicate (3 - (lg_sl ([.ref h0, .int p1])).length) Slot.unset).toArray = ls at hl ⊢
  replace hl : lv_has ls 3 [(0, .ref h0), (1, .int p1)] := hl
  have hw0 := (show ∀ w ∈ wsX10, w ∈ wsX1_addAtom from by decide +kernel)
  have hw1 := hts (.fieldLink RX1 15 "EffectNets$Net" "atoms" "I") (by decide +kernel)
  have hw2 := hts (.fieldLink RX1 22 "EffectNets$Net" "atomBirths" "[I") (by decide +kernel)
  refine hsp _ ?_
  · intro ht
    refine lv_aload_n hx hb dX1_addAtom_0 rfl (lv_at hl 0 rfl) ?_
    refine va_get (D := (dC, dI)) (ci := 1) (v := .int na) (C := RX1) (T := TX1) (N := 10) hx hb hts hw0 hown hK hP 0 rfl rfl 1 (by decide) hw1 (fun _ h9 => h9) rfl dX1_addAtom_1 ?_
    refine lv_bipush (v := 32) hx hb dX1_addAtom_4 (by decide) ?_
    refine lv_icmp_lt (tgt := 11) hx hb dX1_addAtom_6 (by decide) (fun c1 => ?_) (fun c1 => ?_)
    · replace ht := ht.1 c1
      refine lv_aload_n hx hb dX1_addAtom_11 rfl (lv_at hl 0 rfl) ?_
      refine va_get (D := (dC, dI)) (ci := 1) (v := .int na) (C := RX1) (T := TX1) (N := 10) hx hb hts hw0 hown hK hP 0 rfl rfl 1 (by decide) hw1 (fun _ h9 => h9) rfl dX1_addAtom_12 ?_
      refine lv_istore_n (lv' := [(2, .int na), (0, .ref h0), (1, .int p1)]) hx hb dX1_addAtom_15 rfl hl (by decide) rfl (fun ls hl => ?_)
      refine lv_aload_n hx hb dX1_addAtom_16 rfl (lv_at hl 1 rfl) ?_
      refine va_get (D := (dC, dI)) (ci := 1) (v := .ref afab) (C := RX1) (T := TX1) (N := 10) hx hb hts hw0 hown hK hP 0 rfl rfl 3 (by decide) hw2 (fun _ h9 => h9) rfl dX1_addAtom_17 ?_
      refine lv_iload_n hx hb dX1_addAtom_20 rfl (lv_at hl 0 rfl) ?_
      refine lv_iload_n hx hb dX1_addAtom_21 rfl (lv_at hl 2 rfl) ?_
      obtain ⟨i2, ht⟩ := ht
      refine va_iast hx hb hK hP hD hS 1 0 rfl rfl i2 dX1_addAtom_22 (fun H locs hP hD hS => ?_)
      replace hP : va_P (dC, dI) vwCl [(h0, .inr (1, [.int nv, .int na, .ref afbi, .ref afab, .ref afhd, .ref afin, .ref afjo, .ref afnu, .ref afre, .ref afse])), (afab, .inl (cI, 32, .inl (upd fab na.toNatClampNeg p1)))] H := hP
      replace hD : va_D A [(h0, .inr (1, [.int nv, .int na, .ref afbi, .ref afab, .ref afhd, .ref afin, .ref afjo, .ref afnu, .ref afre, .ref afse])), (afab, .inl (cI, 32, .inl (upd fab na.toNatClampNeg p1)))] := hD
      refine lv_aload_n hx hb dX1_addAtom_23 rfl (lv_at hl 1 rfl) ?_
      refine lv_dup hx hb dX1_addAtom_24 rfl ?_
      refine va_get (D := (dC, dI)) (ci := 1) (v := .int na) (C := RX1) (T := TX1) (N := 10) hx hb hts hw0 hown hK hP 0 rfl rfl 1 (by decide) hw1 (fun _ h9 => h9) rfl dX1_addAtom_25 ?_
      refine lv_iconst (v := 1) hx hb dX1_addAtom_28 (by decide) ?_
      refine lv_iadd hx hb dX1_addAtom_29 ?_
      refine lv_topi (fun y3 ey3 => ?_)
      replace ht := ht y3 ey3
      refine va_put (D := (dC, dI)) (ci := 1) (v := .int y3) (ty := .int) (C := RX1) (T := TX1) (N := 10) hx hb hts hw0 tyX1 tyX1_ok nmX1 hown hK hP hD hS 0 rfl rfl 1 (by decide) hw1 (fun _ h9 => h9) rfl (by decide +kernel) rfl rfl (Nat.le_of_ble_eq_true rfl) dX1_addAtom_30 (fun H locs hP hD hS => ?_)
      replace hP : va_P (dC, dI) vwCl [(h0, .inr (1, [.int nv, .int y3, .ref afbi, .ref afab, .ref afhd, .ref afin, .ref afjo, .ref afnu, .ref afre, .ref afse])), (afab, .inl (cI, 32, .inl (upd fab na.toNatClampNeg p1)))] H := hP
      replace hD : va_D A [(h0, .inr (1, [.int nv, .int y3, .ref afbi, .ref afab, .ref afhd, .ref afin, .ref afjo, .ref afnu, .ref afre, .ref afse])), (afab, .inl (cI, 32, .inl (upd fab na.toNatClampNeg p1)))] := hD
      refine lv_iload_n hx hb dX1_addAtom_33 rfl (lv_at hl 0 rfl) ?_
      have hP9 : va_P (dC, dI) vwCl [(h0, .inr (1, [.int nv, .int y3, .ref afbi, .ref afab, .ref afhd, .ref afin, .ref afjo, .ref afnu, .ref afre, .ref afse])), (afab, .inl (cI, 32, .inl (upd fab na.toNatClampNeg p1)))] _ := hP
      have hD9 : va_D A [(h0, .inr (1, [.int nv, .int y3, .ref afbi, .ref afab, .ref afhd, .ref afin, .ref afjo, .ref afnu, .ref afre, .ref afse])), (afab, .inl (cI, 32, .inl (upd fab na.toNatClampNeg p1)))] := hD
      exact W.iret (v := na) hx hb hr (fun t ht9 hW => ⟨⟨na, (y3, (upd fab na.toNatClampNeg p1)), rfl, ht, by rw [ht9]; exact hP9, va_K.moved hW.alike hK, hD9⟩, hS.F ht9⟩) hS.2.2 dX1_addAtom_34
    · replace ht := ht.2 c1
      refine lv_iconst (v := (-1)) hx hb dX1_addAtom_9 (by decide) ?_
      have hP9 : va_P (dC, dI) vwCl [(h0, .inr (1, [.int nv, .int na, .ref afbi, .ref afab, .ref afhd, .ref afin, .ref afjo, .ref afnu, .ref afre, .ref afse])), (afab, .inl (cI, 32, .inl fab))] _ := hP
      have hD9 : va_D A [(h0, .inr (1, [.int nv, .int na, .ref afbi, .ref afab, .ref afhd, .ref afin, .ref afjo, .ref afnu, .ref afre, .ref afse])), (afab, .inl (cI, 32, .inl fab))] := hD
      exact W.iret (v := (-1)) hx hb hr (fun t ht9 hW => ⟨⟨(-1), (na, fab), rfl, ht, by rw [ht9]; exact hP9, va_K.moved hW.alike hK, hD9⟩, hS.F ht9⟩) hS.2.2 dX1_addAtom_10
set_option maxHeartbeats 4000000 in
set_option maxRecDepth 100000 in
theorem c_X1_hasRoomFor (l : Launch) (dC : Nat → ClassId) (dI : Nat → Nat → Nat) (cI cJ : ClassId) (h0 : Nat) (afbi : Nat) (afab : Nat) (afhd : Nat) (afin : Nat) (afjo : Nat) (afnu : Nat) (afre : Nat) (afse : Nat) (nv : Int32) (na : Int32) (sz : Nat) (p1 : Int32) (p2 : Int32) (post : Int32 → Prop) (hsp : S_X1_hasRoomFor p1 p2 nv na post) : Met l yX1_hasRoomFor wsX1_hasRoomFor ({ frames := 0, cells := 0, slots := 0, locals := 0 }) (va_Pc [.ref h0, .int p1, .int p2] (fun U => U.heap.size = sz ∧ va_P (dC, dI) vwCl [(h0, .inr (1, [.int nv, .int na, .ref afbi, .ref afab, .ref afhd, .ref afin, .ref afjo, .ref afnu, .ref afre, .ref afse]))] U.heap ∧ va_K (dC, dI) vwCl [(cI, .int), (cJ, .long)] U ∧ va_D (fun _ => True) [(h0, .inr (1, [.int nv, .int na, .ref afbi, .ref afab, .ref afhd, .ref afin, .ref afjo, .ref afnu, .ref afre, .ref afse]))] ∧ nw U)) (va_Qi (fun (r : Int32) (u : Unit) => post r) (fun (u : Unit) (t : State) => va_P (dC, dI) vwCl [(h0, .inr (1, [.int nv, .int na, .ref afbi, .ref afab, .ref afhd, .ref afin, .ref afjo, .ref afnu, .ref afre, .ref afse]))] t.heap ∧ va_K (dC, dI) vwCl [(cI, .int), (cJ, .long)] t ∧ va_D (va_A [(h0, .inr (1, [.int nv, .int na, .ref afbi, .ref afab, .ref afhd, .ref afin, .ref afjo, .ref afnu, .ref afre, .ref afse]))] sz) [(h0, .inr (1, [.int nv, .int na, .ref afbi, .ref afab, .ref afhd, .ref afin, .ref afjo, .ref afnu, .ref afre, .ref afse]))]) (va_A [(h0, .inr (1, [.int nv, .int na, .ref afbi, .ref afab, .ref afhd, .ref afin, .ref afjo, .ref afnu, .ref afre, .ref afse]))] sz)) 0 0 (va_A [(h0, .inr (1, [.int nv, .int na, .ref afbi, .ref afab, .ref afhd, .ref afin, .ref afjo, .ref afnu, .ref afre, .ref afse]))] sz) := by
  refine Met.ofW (cc := cX1_hasRoomFor) (maxL := 3) (ret := (some .boolean)) (by decide) rfl ?_
  intro p e s m args below meth c s₁ B hml hv
  obtain ⟨rfl, hsz, hP, hK, hD0, hN⟩ := hv
  have hx := B.exec
  have hb := B.bytes
  have hr := B.returns
  have hts := atoms_spec (ws := wsX1_hasRoomFor) B.pre
  have hown : s.vm.findClass RX1 = some m.cls := findClass_of_methodNamed B.named
  have hlocks := B.notSynchronized
  subst hsz
  have hD := hD0.self (sz := s.heap.size)
  generalize hAe : va_A [(h0, .inr (1, [.int nv, .int na, .ref afbi, .ref afab, .ref afhd, .ref afin, .ref afjo, .ref afnu, .ref afre, .ref afse]))] s.heap.size = A at hD ⊢
  have hA : ∀ q : Nat, s.heap.size ≤ q → A q := fun q h => by rw [← hAe]; exact Or.inr h
  have hS : va_S A s.heap s.heap [] := va_S.rf
  have hl := lv_entry ([.ref h0, .int p1, .int p2]) (n := 3) (Nat.le_of_ble_eq_true rfl)
  rw [lg_entry_eq]
  generalize (lg_sl ([.ref h0, .int p1, .int p2]) ++ List.replicate (3 - (lg_sl ([.ref h0, .int p1, .int p2])).length) Slot.unset).toArray = ls at hl ⊢
  replace hl : lv_has ls 3 [(0, .ref h0), (1, .int p1), (2, .int p2)] := hl
  have hw0 := (show ∀ w ∈ wsX10, w ∈ wsX1_hasRoomFor from by decide +kernel)
  have hw1 := hts (.fieldLink RX1 9 "EffectNets$Net" "variables" "I") (by decide +kernel)
  have hw2 := hts (.fieldLink RX1 15 "EffectNets$Net" "atoms" "I") (by decide +kernel)
  refine hsp _ ?_
  · intro ht
    refine lv_iload_n hx hb dX1_hasRoomFor_0 rfl (lv_at hl 1 rfl) ?_
    refine lv_bipush (v := 60) hx hb dX1_hasRoomFor_1 (by decide) ?_
    refine lv_aload_n hx hb dX1_hasRoomFor_3 rfl (lv_at hl 0 rfl) ?_
    refine va_get (D := (dC, dI)) (ci := 1) (v := .int nv) (C := RX1) (T := TX1) (N := 10) hx hb hts hw0 hown hK hP 0 rfl rfl 0 (by decide) hw1 (fun _ h9 => h9) rfl dX1_hasRoomFor_4 ?_
    refine lv_isub hx hb dX1_hasRoomFor_7 ?_
    refine lv_icmp_gt (tgt := 26) hx hb dX1_hasRoomFor_8 (by decide) (fun c1 => ?_) (fun c1 => ?_)
    · replace ht := ht.1 c1
      refine lv_iconst (v := 0) hx hb dX1_hasRoomFor_26 (by decide) ?_
      have hP9 : va_P (dC, dI) vwCl [(h0, .inr (1, [.int nv, .int na, .ref afbi, .ref afab, .ref afhd, .ref afin, .ref afjo, .ref afnu, .ref afre, .ref afse]))] _ := hP
      have hD9 : va_D A [(h0, .inr (1, [.int nv, .int na, .ref afbi, .ref afab, .ref afhd, .ref afin, .ref afjo, .ref afnu, .ref afre, .ref afse]))] := hD
      exact W.zret (v := 0) hx hb hr rfl (fun t ht9 hW => ⟨⟨0, (), rfl, ht, by rw [ht9]; exact hP9, va_K.moved hW.alike hK, hD9⟩, hS.F ht9⟩) hS.2.2 dX1_hasRoomFor_27
    · replace ht := ht.2 c1
      refine lv_iload_n hx hb dX1_hasRoomFor_11 rfl (lv_at hl 2 rfl) ?_
      refine lv_bipush (v := 32) hx hb dX1_hasRoomFor_12 (by decide) ?_
      refine lv_aload_n hx hb dX1_hasRoomFor_14 rfl (lv_at hl 0 rfl) ?_
      refine va_get (D := (dC, dI)) (ci := 1) (v := .int na) (C := RX1) (T := TX1) (N := 10) hx hb hts hw0 hown hK hP 0 rfl rfl 1 (by decide) hw2 (fun _ h9 => h9) rfl dX1_hasRoomFor_15 ?_
      refine lv_isub hx hb dX1_hasRoomFor_18 ?_
      refine lv_icmp_gt (tgt := 26) hx hb dX1_hasRoomFor_19 (by decide) (fun c2 => ?_) (fun c2 => ?_)
      · replace ht := ht.1 c2
        refine lv_iconst (v := 0) hx hb dX1_hasRoomFor_26 (by decide) ?_
        have hP9 : va_P (dC, dI) vwCl [(h0, .inr (1, [.int nv, .int na, .ref afbi, .ref afab, .ref afhd, .ref afin, .ref afjo, .ref afnu, .ref afre, .ref afse]))] _ := hP
        have hD9 : va_D A [(h0, .inr (1, [.int nv, .int na, .ref afbi, .ref afab, .ref afhd, .ref afin, .ref afjo, .ref afnu, .ref afre, .ref afse]))] := hD
        exact W.zret (v := 0) hx hb hr rfl (fun t ht9 hW => ⟨⟨0, (), rfl, ht, by rw [ht9]; exact hP9, va_K.moved hW.alike hK, hD9⟩, hS.F ht9⟩) hS.2.2 dX1_hasRoomFor_27
      · replace ht := ht.2 c2
        refine lv_iconst (v := 1) hx hb dX1_hasRoomFor_22 (by decide) ?_
        refine lv_goto (tgt := 27) hx hb dX1_hasRoomFor_23 (by decide) ?_
        have hP9 : va_P (dC, dI) vwCl [(h0, .inr (1, [.int nv, .int na, .ref afbi, .ref afab, .ref afhd, .ref afin, .ref afjo, .ref afnu, .ref afre, .ref afse]))] _ := hP
        have hD9 : va_D A [(h0, .inr (1, [.int nv, .int na, .ref afbi, .ref afab, .ref afhd, .ref afin, .ref afjo, .ref afnu, .ref afre, .ref afse]))] := hD
        exact W.zret (v := 1) hx hb hr rfl (fun t ht9 hW => ⟨⟨1, (), rfl, ht, by rw [ht9]; exact hP9, va_K.moved hW.alike hK, hD9⟩, hS.F ht9⟩) hS.2.2 dX1_hasRoomFor_27
set_option maxHeartbeats 4000000 in
set_option maxRecDepth 100000 in
theorem c_X1_spread (l : Launch) (dC : Nat → ClassId) (dI : Nat → Nat → Nat) (cI cJ : ClassId) (h0 : Nat) (afbi : Nat) (afab : Nat) (afhd : Nat) (afin : Nat) (afjo : Nat) (afnu : Nat) (afre : Nat) (afse : Nat) (nv : Int32) (na : Int32) (fre : Nat → Int64) (fse : Nat → Int32) (sz : Nat) (p1 : Int32) (p2 : Int64) (p4 : Int32) (post : Int32 → (Nat → Int64) → (Nat → Int32) → Prop) (hsp : S_X1_spread p1 p2 p4 nv fre fse post) : Met l yX1_spread wsX1_spread ({ frames := 1, cells := 0, slots := 0, locals := 22 }) (va_Pc [.ref h0, .int p1, .long p2, .int p4] (fun U => U.heap.size = sz ∧ va_P (dC, dI) vwCl [(h0, .inr (1, [.int nv, .int na, .ref afbi, .ref afab, .ref afhd, .ref afin, .ref afjo, .ref afnu, .ref afre, .ref afse])), (afre, .inl (cJ, 60, .inr (.inl fre))), (afse, .inl (cI, 60, .inl fse))] U.heap ∧ va_K (dC, dI) vwCl [(cI, .int), (cJ, .long)] U ∧ va_D (fun _ => True) [(h0, .inr (1, [.int nv, .int na, .ref afbi, .ref afab, .ref afhd, .ref afin, .ref afjo, .ref afnu, .ref afre, .ref afse])), (afre, .inl (cJ, 60, .inr (.inl fre))), (afse, .inl (cI, 60, .inl fse))] ∧ nw U)) (va_Qi (fun (r : Int32) (u : (Nat → Int64) × (Nat → Int32)) => post r (u.1) (u.2)) (fun (u : (Nat → Int64) × (Nat → Int32)) (t : State) => va_P (dC, dI) vwCl [(h0, .inr (1, [.int nv, .int na, .ref afbi, .ref afab, .ref afhd, .ref afin, .ref afjo, .ref afnu, .ref afre, .ref afse])), (afre, .inl (cJ, 60, .inr (.inl (u.1)))), (afse, .inl (cI, 60, .inl (u.2)))] t.heap ∧ va_K (dC, dI) vwCl [(cI, .int), (cJ, .long)] t ∧ va_D (va_A [(h0, .inr (1, [.int nv, .int na, .ref afbi, .ref afab, .ref afhd, .ref afin, .ref afjo, .ref afnu, .ref afre, .ref afse])), (afre, .inl (cJ, 60, .inr (.inl fre))), (afse, .inl (cI, 60, .inl fse))] sz) [(h0, .inr (1, [.int nv, .int na, .ref afbi, .ref afab, .ref afhd, .ref afin, .ref afjo, .ref afnu, .ref afre, .ref afse])), (afre, .inl (cJ, 60, .inr (.inl (u.1)))), (afse, .inl (cI, 60, .inl (u.2)))]) (va_A [(h0, .inr (1, [.int nv, .int na, .ref afbi, .ref afab, .ref afhd, .ref afin, .ref afjo, .ref afnu, .ref afre, .ref afse])), (afre, .inl (cJ, 60, .inr (.inl fre))), (afse, .inl (cI, 60, .inl fse))] sz)) 0 0 (va_A [(h0, .inr (1, [.int nv, .int na, .ref afbi, .ref afab, .ref afhd, .ref afin, .ref afjo, .ref afnu, .ref afre, .ref afse])), (afre, .inl (cJ, 60, .inr (.inl fre))), (afse, .inl (cI, 60, .inl fse))] sz) := by
  refine Met.ofW (cc := cX1_spread) (maxL := 7) (ret := (some .int)) (by decide) rfl ?_
  intro p e s m args below meth c s₁ B hml hv
  obtain ⟨rfl, hsz, hP, hK, hD0, hN⟩ := hv
  have hx := B.exec
  have hb := B.bytes
  have hr := B.returns
  have hts := atoms_spec (ws := wsX1_spread) B.pre
  have hown : s.vm.findClass RX1 = some m.cls := findClass_of_methodNamed B.named
  have hlocks := B.notSynchronized
  subst hsz
  have hD := hD0.self (sz := s.heap.size)
  generalize hAe : va_A [(h0, .inr (1, [.int nv, .int na, .ref afbi, .ref afab, .ref afhd, .ref afin, .ref afjo, .ref afnu, .ref afre, .ref afse])), (afre, .inl (cJ, 60, .inr (.inl fre))), (afse, .inl (cI, 60, .inl fse))] s.heap.size = A at hD ⊢
  have hA : ∀ q : Nat, s.heap.size ≤ q → A q := fun q h => by rw [← hAe]; exact Or.inr h
  have hS : va_S A s.heap s.heap [] := va_S.rf
  have hl := lv_entry ([.ref h0, .int p1, .long p2, .int p4]) (n := 7) (Nat.le_of_ble_eq_true rfl)
  rw [lg_entry_eq]
  generalize (lg_sl ([.ref h0, .int p1, .long p2, .int p4]) ++ List.replicate (7 - (lg_sl ([.ref h0, .int p1, .long p2, .int p4])).length) Slot.unset).toArray = ls at hl ⊢
  replace hl : lv_has ls 7 [(0, .ref h0), (1, .int p1), (2, .long p2), (4, .int p4)] := hl
  have hw0 := (show ∀ w ∈ wsX10, w ∈ wsX1_spread from by decide +kernel)
  have hw1 := hts (.fieldLink RX1 9 "EffectNets$Net" "variables" "I") (by decide +kernel)
  have hw2 := hts (.fieldLink RX1 38 "EffectNets$Net" "reached" "[J") (by decide +kernel)
  have hw3 := hts (.initialized RX3) (by decide +kernel)
  have hw4 := hts (.static yX3_contains) (by decide +kernel)
  have hw5 := hts (.fieldLink RX1 41 "EffectNets$Net" "sets" "[I") (by decide +kernel)
  refine hsp _ (fun (x5 : Int32) (x6 : Int32) (fre : Nat → Int64) (fse : Nat → Int32) => ∀ (H : Heap) (locs : List Loc) (ls : Array Slot), va_P (dC, dI) vwCl [(h0, .inr (1, [.int nv, .int na, .ref afbi, .ref afab, .ref afhd, .ref afin, .ref afjo, .ref afnu, .ref afre, .ref afse])), (afre, .inl (cJ, 60, .inr (.inl fre))), (afse, .inl (cI, 60, .inl fse))] H → va_D A [(h0, .inr (1, [.int nv, .int na, .ref afbi, .ref afab, .ref afhd, .ref afin, .ref afjo, .ref afnu, .ref afre, .ref afse])), (afre, .inl (cJ, 60, .inr (.inl fre))), (afse, .inl (cI, 60, .inl fse))] → va_S A s.heap H locs → lv_has ls 7 [(0, .ref h0), (1, .int p1), (2, .long p2), (4, .int p4), (5, .int x5), (6, .int x6)] → W p l e (headSpec wsX1_spread ({ frames := 1, cells := 0, slots := 0, locals := 22 })).room s m (List.toArray [.ref h0, .int p1, .long p2, .int p4]) below meth c H locs 0 0 (MQ below (va_Qi (fun (r : Int32) (u : (Nat → Int64) × (Nat → Int32)) => post r (u.1) (u.2)) (fun (u : (Nat → Int64) × (Nat → Int32)) (t : State) => va_P (dC, dI) vwCl [(h0, .inr (1, [.int nv, .int na, .ref afbi, .ref afab, .ref afhd, .ref afin, .ref afjo, .ref afnu, .ref afre, .ref afse])), (afre, .inl (cJ, 60, .inr (.inl (u.1)))), (afse, .inl (cI, 60, .inl (u.2)))] t.heap ∧ va_K (dC, dI) vwCl [(cI, .int), (cJ, .long)] t ∧ va_D A [(h0, .inr (1, [.int nv, .int na, .ref afbi, .ref afab, .ref afhd, .ref afin, .ref afjo, .ref afnu, .ref afre, .ref afse])), (afre, .inl (cJ, 60, .inr (.inl (u.1)))), (afse, .inl (cI, 60, .inl (u.2)))]) A) (List.toArray [.ref h0, .int p1, .long p2, .int p4]) s 0 0 A) (F0 m 6 ls [])) ?_ ?_
  · intro x5 x6 fre fse ht H locs ls hP hD hS hl
    refine lv_iload hx hb dX1_spread_6 (lv_at hl 5 rfl) ?_
    refine lv_aload_n hx hb dX1_spread_8 rfl (lv_at hl 0 rfl) ?_
    refine va_get (D := (dC, dI)) (ci := 1) (v := .int nv) (C := RX1) (T := TX1) (N := 10) hx hb hts hw0 hown hK hP 0 rfl rfl 0 (by decide) hw1 (fun _ h9 => h9) rfl dX1_spread_9 ?_
    refine lv_icmp_ge (tgt := 78) hx hb dX1_spread_12 (by decide) (fun c1 => ?_) (fun c1 => ?_)
    · replace ht := ht.1 c1
      refine lv_iload hx hb dX1_spread_78 (lv_at hl 4 rfl) ?_
      have hP9 : va_P (dC, dI) vwCl [(h0, .inr (1, [.int nv, .int na, .ref afbi, .ref afab, .ref afhd, .ref afin, .ref afjo, .ref afnu, .ref afre, .ref afse])), (afre, .inl (cJ, 60, .inr (.inl fre))), (afse, .inl (cI, 60, .inl fse))] _ := hP
      have hD9 : va_D A [(h0, .inr (1, [.int nv, .int na, .ref afbi, .ref afab, .ref afhd, .ref afin, .ref afjo, .ref afnu, .ref afre, .ref afse])), (afre, .inl (cJ, 60, .inr (.inl fre))), (afse, .inl (cI, 60, .inl fse))] := hD
      exact W.iret (v := x5) hx hb hr (fun t ht9 hW => ⟨⟨x5, (fre, fse), rfl, ht, by rw [ht9]; exact hP9, va_K.moved hW.alike hK, hD9⟩, hS.F ht9⟩) hS.2.2 dX1_spread_80
    · replace ht := ht.2 c1
      refine lv_aload_n hx hb dX1_spread_15 rfl (lv_at hl 0 rfl) ?_
      refine va_get (D := (dC, dI)) (ci := 1) (v := .ref afre) (C := RX1) (T := TX1) (N := 10) hx hb hts hw0 hown hK hP 0 rfl rfl 8 (by decide) hw2 (fun _ h9 => h9) rfl dX1_spread_16 ?_
      refine lv_iload hx hb dX1_spread_19 (lv_at hl 5 rfl) ?_
      obtain ⟨i2, ht⟩ := ht
      refine va_lald hx hb hK hP 1 1 rfl rfl i2 dX1_spread_21 ?_
      refine lv_iload_n hx hb dX1_spread_22 rfl (lv_at hl 1 rfl) ?_
      have hPc := hP.sub (ws' := []) [] rfl
      have hDc := hD.sub (ws' := []) [] (by decide) rfl
      have hFc := va_free (wc := []) hD hS hA [] rfl
      refine va_calli (va_runSN (As := [.long (fre x6.toNatClampNeg), .int p1]) (rest := []) ⟨hx, hb, hml, hown, hts⟩ (c_X3_contains l dC dI cI cJ  H.size (fre x6.toNatClampNeg) p1 _ ht) ⟨va_cnB 2 hts gX1_spread_X3_contains_n71 rfl rfl rfl hN.2.2.2.2.1 hw3 (by decide +kernel) ⟨Nat.le_of_ble_eq_true rfl, Nat.le_of_ble_eq_true rfl⟩, hw4, trivial⟩ ⟨fun a U g mk q => by obtain ⟨q0, q1, qP, qK, qD, qN⟩ := q; exact ⟨q0, q1, qP, va_K.moved (u := U) (U := U.calling g mk a) (Vm.Alike.refl U.vm) qK, qD, nw_same rfl qN⟩, fun U hU hW => ⟨rfl, by rw [hU], by rw [hU]; exact hPc, va_K.moved hW.alike hK, hDc.weaken (fun _ _ _ _ => trivial), nw_warm hW hN⟩⟩ rfl rfl hl.1 rfl (lv_room (Nat.le_of_ble_eq_true rfl)) dX1_spread_23 ⟨Nat.le_of_ble_eq_true rfl, Nat.le_of_ble_eq_true rfl⟩) hS (fun q _ h => hFc q h) hFc (fun r3 u t H1 locs ht9 hvm hw hB hz1 hk1 hS => ?_)
      obtain ⟨hP1, hK1, hD1⟩ := hB
      rw [ht9] at hP1
      try dsimp only at hw
      replace ht := hw
      obtain ⟨hP, hD⟩ := va_join (wr := [(h0, .inr (1, [.int nv, .int na, .ref afbi, .ref afab, .ref afhd, .ref afin, .ref afjo, .ref afnu, .ref afre, .ref afse])), (afre, .inl (cJ, 60, .inr (.inl fre))), (afse, .inl (cI, 60, .inl fse))]) (w1 := []) hP hD [] [0, 1, 2] rfl rfl (by decide) (by decide) hk1 hFc hP1 hD1
      generalize H1 = H at hP hS ⊢
      replace hP : va_P (dC, dI) vwCl [(h0, .inr (1, [.int nv, .int na, .ref afbi, .ref afab, .ref afhd, .ref afin, .ref afjo, .ref afnu, .ref afre, .ref afse])), (afre, .inl (cJ, 60, .inr (.inl fre))), (afse, .inl (cI, 60, .inl fse))] H := hP
      replace hD : va_D A [(h0, .inr (1, [.int nv, .int na, .ref afbi, .ref afab, .ref afhd, .ref afin, .ref afjo, .ref afnu, .ref afre, .ref afse])), (afre, .inl (cJ, 60, .inr (.inl fre))), (afse, .inl (cI, 60, .inl fse))] := hD
      refine lv_if_eq (tgt := 72) hx hb dX1_spread_26 (by decide) (fun c4 => ?_) (fun c4 => ?_)
      · replace ht := ht.1 c4
        obtain ⟨y5, ey5⟩ : ∃ y : Int32, y = x6 + 1 := ⟨_, rfl⟩
        replace ht := ht y5 ey5
        refine lv_iinc (v := y5) (lv' := [(6, .int y5), (0, .ref h0), (1, .int p1), (2, .long p2), (4, .int p4), (5, .int x5)]) hx hb dX1_spread_72 hl (k := 5) rfl (by rw [ey5]; rfl) (by decide) rfl (fun ls hl => ?_)
        refine lv_goto (tgt := 6) hx hb dX1_spread_75 (by decide) ?_
        exact ht _ _ _ hP hD hS (lv_sub hl [1, 2, 3, 4, 5, 0] rfl)
      · replace ht := ht.2 c4
        refine lv_iload hx hb dX1_spread_29 (lv_at hl 4 rfl) ?_
        refine lv_iload hx hb dX1_spread_31 (lv_at hl 3 rfl) ?_
        refine lv_aload_n hx hb dX1_spread_33 rfl (lv_at hl 0 rfl) ?_
        refine va_get (D := (dC, dI)) (ci := 1) (v := .ref afse) (C := RX1) (T := TX1) (N := 10) hx hb hts hw0 hown hK hP 0 rfl rfl 9 (by decide) hw5 (fun _ h9 => h9) rfl dX1_spread_34 ?_
        refine lv_iload hx hb dX1_spread_37 (lv_at hl 5 rfl) ?_
        refine va_iald hx hb hK hP 2 0 rfl rfl i2 dX1_spread_39 ?_
        refine lv_iconst (v := (-1)) hx hb dX1_spread_40 (by decide) ?_
        refine lv_ixor hx hb dX1_spread_41 ?_
        refine lv_iand hx hb dX1_spread_42 ?_
        have hPc := hP.sub (ws' := []) [] rfl
        have hDc := hD.sub (ws' := []) [] (by decide) rfl
        have hFc := va_free (wc := []) hD hS hA [] rfl
        refine va_calli (va_runS (As := [.int (p4 &&& ((fse x6.toNatClampNeg) ^^^ (-1)))]) (rest := [.int x5]) ⟨hx, hb, hml, hown, hts⟩ (c_J6_bitCount_0f7a4 l dC dI cI cJ  H.size (p4 &&& ((fse x6.toNatClampNeg) ^^^ (-1))) _ ht) (va_cwS 1 hts gX1_spread_J6_bitCount_0f7a4 rfl rfl rfl (by decide +kernel) ⟨Nat.le_of_ble_eq_true rfl, Nat.le_of_ble_eq_true rfl⟩) ⟨fun a U g mk q => by obtain ⟨q0, q1, qP, qK, qD, qN⟩ := q; exact ⟨q0, q1, qP, va_K.moved (u := U) (U := U.calling g mk a) (Vm.Alike.refl U.vm) qK, qD, nw_same rfl qN⟩, fun U hU hW => ⟨rfl, by rw [hU], by rw [hU]; exact hPc, va_K.moved hW.alike hK, hDc.weaken (fun _ _ _ _ => trivial), nw_warm hW hN⟩⟩ rfl rfl hl.1 rfl (lv_room (Nat.le_of_ble_eq_true rfl)) dX1_spread_43 ⟨Nat.le_of_ble_eq_true rfl, Nat.le_of_ble_eq_true rfl⟩) hS (fun q _ h => hFc q h) hFc (fun r6 u t H1 locs ht9 hvm hw hB hz1 hk1 hS => ?_)
        obtain ⟨hP1, hK1, hD1⟩ := hB
        rw [ht9] at hP1
        try dsimp only at hw
        replace ht := hw
        obtain ⟨hP, hD⟩ := va_join (wr := [(h0, .inr (1, [.int nv, .int na, .ref afbi, .ref afab, .ref afhd, .ref afin, .ref afjo, .ref afnu, .ref afre, .ref afse])), (afre, .inl (cJ, 60, .inr (.inl fre))), (afse, .inl (cI, 60, .inl fse))]) (w1 := []) hP hD [] [0, 1, 2] rfl rfl (by decide) (by decide) hk1 hFc hP1 hD1
        generalize H1 = H at hP hS ⊢
        replace hP : va_P (dC, dI) vwCl [(h0, .inr (1, [.int nv, .int na, .ref afbi, .ref afab, .ref afhd, .ref afin, .ref afjo, .ref afnu, .ref afre, .ref afse])), (afre, .inl (cJ, 60, .inr (.inl fre))), (afse, .inl (cI, 60, .inl fse))] H := hP
        replace hD : va_D A [(h0, .inr (1, [.int nv, .int na, .ref afbi, .ref afab, .ref afhd, .ref afin, .ref afjo, .ref afnu, .ref afre, .ref afse])), (afre, .inl (cJ, 60, .inr (.inl fre))), (afse, .inl (cI, 60, .inl fse))] := hD
        refine lv_iadd hx hb dX1_spread_46 ?_
        refine lv_topi (fun y7 ey7 => ?_)
        replace ht := ht y7 ey7
        refine lv_istore (lv' := [(5, .int y7), (0, .ref h0), (1, .int p1), (2, .long p2), (4, .int p4), (6, .int x6)]) hx hb dX1_spread_47 hl (by decide) rfl (fun ls hl => ?_)
        refine lv_aload_n hx hb dX1_spread_49 rfl (lv_at hl 1 rfl) ?_
        refine va_get (D := (dC, dI)) (ci := 1) (v := .ref afse) (C := RX1) (T := TX1) (N := 10) hx hb hts hw0 hown hK hP 0 rfl rfl 9 (by decide) hw5 (fun _ h9 => h9) rfl dX1_spread_50 ?_
        refine lv_iload hx hb dX1_spread_53 (lv_at hl 5 rfl) ?_
        refine lv_dup2_11 hx hb dX1_spread_55 rfl rfl ?_
        refine va_iald hx hb hK hP 2 0 rfl rfl i2 dX1_spread_56 ?_
        refine lv_iload hx hb dX1_spread_57 (lv_at hl 4 rfl) ?_
        refine lv_ior hx hb dX1_spread_59 ?_
        refine va_iast hx hb hK hP hD hS 2 0 rfl rfl i2 dX1_spread_60 (fun H locs hP hD hS => ?_)
        replace hP : va_P (dC, dI) vwCl [(h0, .inr (1, [.int nv, .int na, .ref afbi, .ref afab, .ref afhd, .ref afin, .ref afjo, .ref afnu, .ref afre, .ref afse])), (afre, .inl (cJ, 60, .inr (.inl fre))), (afse, .inl (cI, 60, .inl (upd fse x6.toNatClampNeg ((fse x6.toNatClampNeg) ||| p4))))] H := hP
        replace hD : va_D A [(h0, .inr (1, [.int nv, .int na, .ref afbi, .ref afab, .ref afhd, .ref afin, .ref afjo, .ref afnu, .ref afre, .ref afse])), (afre, .inl (cJ, 60, .inr (.inl fre))), (afse, .inl (cI, 60, .inl (upd fse x6.toNatClampNeg ((fse x6.toNatClampNeg) ||| p4))))] := hD
        refine lv_aload_n hx hb dX1_spread_61 rfl (lv_at hl 1 rfl) ?_
        refine va_get (D := (dC, dI)) (ci := 1) (v := .ref afre) (C := RX1) (T := TX1) (N := 10) hx hb hts hw0 hown hK hP 0 rfl rfl 8 (by decide) hw2 (fun _ h9 => h9) rfl dX1_spread_62 ?_
        refine lv_iload hx hb dX1_spread_65 (lv_at hl 5 rfl) ?_
        refine lv_dup2_11 hx hb dX1_spread_67 rfl rfl ?_
        refine va_lald hx hb hK hP 1 1 rfl rfl i2 dX1_spread_68 ?_
        refine lv_lload_n hx hb dX1_spread_69 rfl (lv_at hl 3 rfl) ?_
        refine lv_lor hx hb dX1_spread_70 ?_
        refine va_last hx hb hK hP hD hS 1 1 rfl rfl i2 dX1_spread_71 (fun H locs hP hD hS => ?_)
        replace hP : va_P (dC, dI) vwCl [(h0, .inr (1, [.int nv, .int na, .ref afbi, .ref afab, .ref afhd, .ref afin, .ref afjo, .ref afnu, .ref afre, .ref afse])), (afre, .inl (cJ, 60, .inr (.inl (vp_updL fre x6.toNatClampNeg ((fre x6.toNatClampNeg) ||| p2))))), (afse, .inl (cI, 60, .inl (upd fse x6.toNatClampNeg ((fse x6.toNatClampNeg) ||| p4))))] H := hP
        replace hD : va_D A [(h0, .inr (1, [.int nv, .int na, .ref afbi, .ref afab, .ref afhd, .ref afin, .ref afjo, .ref afnu, .ref afre, .ref afse])), (afre, .inl (cJ, 60, .inr (.inl (vp_updL fre x6.toNatClampNeg ((fre x6.toNatClampNeg) ||| p2))))), (afse, .inl (cI, 60, .inl (upd fse x6.toNatClampNeg ((fse x6.toNatClampNeg) ||| p4))))] := hD
        obtain ⟨y8, ey8⟩ : ∃ y : Int32, y = x6 + 1 := ⟨_, rfl⟩
        replace ht := ht y8 ey8
        refine lv_iinc (v := y8) (lv' := [(6, .int y8), (5, .int y7), (0, .ref h0), (1, .int p1), (2, .long p2), (4, .int p4)]) hx hb dX1_spread_72 hl (k := 5) rfl (by rw [ey8]; rfl) (by decide) rfl (fun ls hl => ?_)
        refine lv_goto (tgt := 6) hx hb dX1_spread_75 (by decide) ?_
        exact ht _ _ _ hP hD hS (lv_sub hl [2, 3, 4, 5, 1, 0] rfl)
  · intro ht
    refine lv_iconst (v := 0) hx hb dX1_spread_0 (by decide) ?_
    refine lv_istore (lv' := [(5, .int 0), (0, .ref h0), (1, .int p1), (2, .long p2), (4, .int p4)]) hx hb dX1_spread_1 hl (by decide) rfl (fun ls hl => ?_)
    refine lv_iconst (v := 0) hx hb dX1_spread_3 (by decide) ?_
    refine lv_istore (lv' := [(6, .int 0), (5, .int 0), (0, .ref h0), (1, .int p1), (2, .long p2), (4, .int p4)]) hx hb dX1_spread_4 hl (by decide) rfl (fun ls hl => ?_)
    exact ht _ _ _ hP hD hS (lv_sub hl [2, 3, 4, 5, 1, 0] rfl)
set_option maxHeartbeats 4000000 in
set_option maxRecDepth 100000 in
theorem c_X1_tellHas (l : Launch) (dC : Nat → ClassId) (dI : Nat → Nat → Nat) (cI cJ : ClassId) (h0 : Nat) (afbi : Nat) (afab : Nat) (afhd : Nat) (afin : Nat) (afjo : Nat) (afnu : Nat) (afre : Nat) (afse : Nat) (nv : Int32) (na : Int32) (fhd : Nat → Int32) (fre : Nat → Int64) (fse : Nat → Int32) (sz : Nat) (p1 : Int32) (p2 : Int32) (post : Int32 → (Nat → Int32) → (Nat → Int64) → (Nat → Int32) → Prop) (hsp : S_X1_tellHas p1 p2 nv fhd fre fse post) : Met l yX1_tellHas wsX1_tellHas ({ frames := 2, cells := 0, slots := 0, locals := 48 }) (va_Pc [.ref h0, .int p1, .int p2] (fun U => U.heap.size = sz ∧ va_P (dC, dI) vwCl [(h0, .inr (1, [.int nv, .int na, .ref afbi, .ref afab, .ref afhd, .ref afin, .ref afjo, .ref afnu, .ref afre, .ref afse])), (afhd, .inl (cI, 60, .inl fhd)), (afre, .inl (cJ, 60, .inr (.inl fre))), (afse, .inl (cI, 60, .inl fse))] U.heap ∧ va_K (dC, dI) vwCl [(cI, .int), (cJ, .long)] U ∧ va_D (fun _ => True) [(h0, .inr (1, [.int nv, .int na, .ref afbi, .ref afab, .ref afhd, .ref afin, .ref afjo, .ref afnu, .ref afre, .ref afse])), (afhd, .inl (cI, 60, .inl fhd)), (afre, .inl (cJ, 60, .inr (.inl fre))), (afse, .inl (cI, 60, .inl fse))] ∧ nw U)) (va_Qi (fun (r : Int32) (u : (Nat → Int32) × (Nat → Int64) × (Nat → Int32)) => post r (u.1) (u.2.1) (u.2.2)) (fun (u : (Nat → Int32) × (Nat → Int64) × (Nat → Int32)) (t : State) => va_P (dC, dI) vwCl [(h0, .inr (1, [.int nv, .int na, .ref afbi, .ref afab, .ref afhd, .ref afin, .ref afjo, .ref afnu, .ref afre, .ref afse])), (afhd, .inl (cI, 60, .inl (u.1))), (afre, .inl (cJ, 60, .inr (.inl (u.2.1)))), (afse, .inl (cI, 60, .inl (u.2.2)))] t.heap ∧ va_K (dC, dI) vwCl [(cI, .int), (cJ, .long)] t ∧ va_D (va_A [(h0, .inr (1, [.int nv, .int na, .ref afbi, .ref afab, .ref afhd, .ref afin, .ref afjo, .ref afnu, .ref afre, .ref afse])), (afhd, .inl (cI, 60, .inl fhd)), (afre, .inl (cJ, 60, .inr (.inl fre))), (afse, .inl (cI, 60, .inl fse))] sz) [(h0, .inr (1, [.int nv, .int na, .ref afbi, .ref afab, .ref afhd, .ref afin, .ref afjo, .ref afnu, .ref afre, .ref afse])), (afhd, .inl (cI, 60, .inl (u.1))), (afre, .inl (cJ, 60, .inr (.inl (u.2.1)))), (afse, .inl (cI, 60, .inl (u.2.2)))]) (va_A [(h0, .inr (1, [.int nv, .int na, .ref afbi, .ref afab, .ref afhd, .ref afin, .ref afjo, .ref afnu, .ref afre, .ref afse])), (afhd, .inl (cI, 60, .inl fhd)), (afre, .inl (cJ, 60, .inr (.inl fre))), (afse, .inl (cI, 60, .inl fse))] sz)) 0 0 (va_A [(h0, .inr (1, [.int nv, .int na, .ref afbi, .ref afab, .ref afhd, .ref afin, .ref afjo, .ref afnu, .ref afre, .ref afse])), (afhd, .inl (cI, 60, .inl fhd)), (afre, .inl (cJ, 60, .inr (.inl fre))), (afse, .inl (cI, 60, .inl fse))] sz) := by
  refine Met.ofW (cc := cX1_tellHas) (maxL := 4) (ret := (some .int)) (by decide) rfl ?_
  intro p e s m args below meth c s₁ B hml hv
  obtain ⟨rfl, hsz, hP, hK, hD0, hN⟩ := hv
  have hx := B.exec
  have hb := B.bytes
  have hr := B.returns
  have hts := atoms_spec (ws := wsX1_tellHas) B.pre
  have hown : s.vm.findClass RX1 = some m.cls := findClass_of_methodNamed B.named
  have hlocks := B.notSynchronized
  subst hsz
  have hD := hD0.self (sz := s.heap.size)
  generalize hAe : va_A [(h0, .inr (1, [.int nv, .int na, .ref afbi, .ref afab, .ref afhd, .ref afin, .ref afjo, .ref afnu, .ref afre, .ref afse])), (afhd, .inl (cI, 60, .inl fhd)), (afre, .inl (cJ, 60, .inr (.inl fre))), (afse, .inl (cI, 60, .inl fse))] s.heap.size = A at hD ⊢
  have hA : ∀ q : Nat, s.heap.size ≤ q → A q := fun q h => by rw [← hAe]; exact Or.inr h
  have hS : va_S A s.heap s.heap [] := va_S.rf
  have hl := lv_entry ([.ref h0, .int p1, .int p2]) (n := 4) (Nat.le_of_ble_eq_true rfl)
  rw [lg_entry_eq]
  generalize (lg_sl ([.ref h0, .int p1, .int p2]) ++ List.replicate (4 - (lg_sl ([.ref h0, .int p1, .int p2])).length) Slot.unset).toArray = ls at hl ⊢
  replace hl : lv_has ls 4 [(0, .ref h0), (1, .int p1), (2, .int p2)] := hl
  have hw0 := (show ∀ w ∈ wsX10, w ∈ wsX1_tellHas from by decide +kernel)
  have hw1 := hts (.fieldLink RX1 25 "EffectNets$Net" "had" "[I") (by decide +kernel)
  refine hsp _ ?_
  · intro ht
    refine lv_iconst (v := 1) hx hb dX1_tellHas_0 (by decide) ?_
    refine lv_iload_n hx hb dX1_tellHas_1 rfl (lv_at hl 2 rfl) ?_
    refine lv_ishl hx hb dX1_tellHas_2 ?_
    refine lv_topi (fun y1 ey1 => ?_)
    replace ht := ht y1 ey1
    refine lv_istore_n (lv' := [(3, .int y1), (0, .ref h0), (1, .int p1), (2, .int p2)]) hx hb dX1_tellHas_3 rfl hl (by decide) rfl (fun ls hl => ?_)
    refine lv_aload_n hx hb dX1_tellHas_4 rfl (lv_at hl 1 rfl) ?_
    refine va_get (D := (dC, dI)) (ci := 1) (v := .ref afhd) (C := RX1) (T := TX1) (N := 10) hx hb hts hw0 hown hK hP 0 rfl rfl 4 (by decide) hw1 (fun _ h9 => h9) rfl dX1_tellHas_5 ?_
    refine lv_iload_n hx hb dX1_tellHas_8 rfl (lv_at hl 2 rfl) ?_
    refine lv_dup2_11 hx hb dX1_tellHas_9 rfl rfl ?_
    obtain ⟨i2, ht⟩ := ht
    refine va_iald hx hb hK hP 1 0 rfl rfl i2 dX1_tellHas_10 ?_
    refine lv_iload_n hx hb dX1_tellHas_11 rfl (lv_at hl 0 rfl) ?_
    refine lv_ior hx hb dX1_tellHas_12 ?_
    refine va_iast hx hb hK hP hD hS 1 0 rfl rfl i2 dX1_tellHas_13 (fun H locs hP hD hS => ?_)
    replace hP : va_P (dC, dI) vwCl [(h0, .inr (1, [.int nv, .int na, .ref afbi, .ref afab, .ref afhd, .ref afin, .ref afjo, .ref afnu, .ref afre, .ref afse])), (afhd, .inl (cI, 60, .inl (upd fhd p1.toNatClampNeg ((fhd p1.toNatClampNeg) ||| y1)))), (afre, .inl (cJ, 60, .inr (.inl fre))), (afse, .inl (cI, 60, .inl fse))] H := hP
    replace hD : va_D A [(h0, .inr (1, [.int nv, .int na, .ref afbi, .ref afab, .ref afhd, .ref afin, .ref afjo, .ref afnu, .ref afre, .ref afse])), (afhd, .inl (cI, 60, .inl (upd fhd p1.toNatClampNeg ((fhd p1.toNatClampNeg) ||| y1)))), (afre, .inl (cJ, 60, .inr (.inl fre))), (afse, .inl (cI, 60, .inl fse))] := hD
    refine lv_aload_n hx hb dX1_tellHas_14 rfl (lv_at hl 1 rfl) ?_
    refine lv_iload_n hx hb dX1_tellHas_15 rfl (lv_at hl 2 rfl) ?_
    refine lv_lconst (v := 0) hx hb dX1_tellHas_16 rfl ?_
    refine lv_iload_n hx hb dX1_tellHas_17 rfl (lv_at hl 0 rfl) ?_
    have hPc := hP.sub (ws' := [(h0, .inr (1, [.int nv, .int na, .ref afbi, .ref afab, .ref afhd, .ref afin, .ref afjo, .ref afnu, .ref afre, .ref afse])), (afre, .inl (cJ, 60, .inr (.inl fre))), (afse, .inl (cI, 60, .inl fse))]) [0, 2, 3] rfl
    have hDc := hD.sub (ws' := [(h0, .inr (1, [.int nv, .int na, .ref afbi, .ref afab, .ref afhd, .ref afin, .ref afjo, .ref afnu, .ref afre, .ref afse])), (afre, .inl (cJ, 60, .inr (.inl fre))), (afse, .inl (cI, 60, .inl fse))]) [0, 2, 3] (by decide) rfl
    have hFc := va_free (wc := [(h0, .inr (1, [.int nv, .int na, .ref afbi, .ref afab, .ref afhd, .ref afin, .ref afjo, .ref afnu, .ref afre, .ref afse])), (afre, .inl (cJ, 60, .inr (.inl fre))), (afse, .inl (cI, 60, .inl fse))]) hD hS hA [0, 2, 3] rfl
    refine va_calli (va_runV (As := [.int p1, .long 0, .int y1]) (rest := []) ⟨hx, hb, hml, hown, hts⟩ (c_X1_spread l dC dI cI cJ h0 afbi afab afhd afin afjo afnu afre afse nv na fre fse H.size p1 0 y1 _ ht) (cwV 3 hts gX1_tellHas_X1_spread rfl rfl rfl (by decide +kernel) ⟨Nat.le_of_ble_eq_true rfl, Nat.le_of_ble_eq_true rfl⟩) ⟨fun a U g mk q => by obtain ⟨q0, q1, qP, qK, qD, qN⟩ := q; exact ⟨q0, q1, qP, va_K.moved (u := U) (U := U.calling g mk a) (Vm.Alike.refl U.vm) qK, qD, nw_same rfl qN⟩, va_recv hK hP (ci := 1) (q0 := 0) rfl rfl, fun U hU hW => ⟨rfl, by rw [hU], by rw [hU]; exact hPc, va_K.moved hW.alike hK, hDc.weaken (fun _ _ _ _ => trivial), nw_warm hW hN⟩⟩ rfl rfl hl.1 rfl (lv_room (Nat.le_of_ble_eq_true rfl)) dX1_tellHas_18 ⟨Nat.le_of_ble_eq_true rfl, Nat.le_of_ble_eq_true rfl⟩) hS (fun q _ h => hFc q h) hFc (fun r3 u t H1 locs ht9 hvm hw hB hz1 hk1 hS => ?_)
    obtain ⟨fre_4, fse_5⟩ := u
    obtain ⟨hP1, hK1, hD1⟩ := hB
    rw [ht9] at hP1
    try dsimp only at hw
    replace ht := hw
    obtain ⟨hP, hD⟩ := va_join (wr := [(afhd, .inl (cI, 60, .inl (upd fhd p1.toNatClampNeg ((fhd p1.toNatClampNeg) ||| y1))))]) (w1 := [(h0, .inr (1, [.int nv, .int na, .ref afbi, .ref afab, .ref afhd, .ref afin, .ref afjo, .ref afnu, .ref afre, .ref afse])), (afre, .inl (cJ, 60, .inr (.inl fre_4))), (afse, .inl (cI, 60, .inl fse_5))]) hP hD [0, 2, 3] [1] rfl rfl (by decide) (by decide) hk1 hFc hP1 hD1
    generalize H1 = H at hP hS ⊢
    replace hP : va_P (dC, dI) vwCl [(afhd, .inl (cI, 60, .inl (upd fhd p1.toNatClampNeg ((fhd p1.toNatClampNeg) ||| y1)))), (h0, .inr (1, [.int nv, .int na, .ref afbi, .ref afab, .ref afhd, .ref afin, .ref afjo, .ref afnu, .ref afre, .ref afse])), (afre, .inl (cJ, 60, .inr (.inl fre_4))), (afse, .inl (cI, 60, .inl fse_5))] H := hP
    replace hD : va_D A [(afhd, .inl (cI, 60, .inl (upd fhd p1.toNatClampNeg ((fhd p1.toNatClampNeg) ||| y1)))), (h0, .inr (1, [.int nv, .int na, .ref afbi, .ref afab, .ref afhd, .ref afin, .ref afjo, .ref afnu, .ref afre, .ref afse])), (afre, .inl (cJ, 60, .inr (.inl fre_4))), (afse, .inl (cI, 60, .inl fse_5))] := hD
    have hP9 : va_P (dC, dI) vwCl [(h0, .inr (1, [.int nv, .int na, .ref afbi, .ref afab, .ref afhd, .ref afin, .ref afjo, .ref afnu, .ref afre, .ref afse])), (afhd, .inl (cI, 60, .inl (upd fhd p1.toNatClampNeg ((fhd p1.toNatClampNeg) ||| y1)))), (afre, .inl (cJ, 60, .inr (.inl fre_4))), (afse, .inl (cI, 60, .inl fse_5))] _ := (hP.sub [1, 0, 2, 3] rfl)
    have hD9 : va_D A [(h0, .inr (1, [.int nv, .int na, .ref afbi, .ref afab, .ref afhd, .ref afin, .ref afjo, .ref afnu, .ref afre, .ref afse])), (afhd, .inl (cI, 60, .inl (upd fhd p1.toNatClampNeg ((fhd p1.toNatClampNeg) ||| y1)))), (afre, .inl (cJ, 60, .inr (.inl fre_4))), (afse, .inl (cI, 60, .inl fse_5))] := (hD.sub [1, 0, 2, 3] (by decide) rfl)
    exact W.iret (v := r3) hx hb hr (fun t ht9 hW => ⟨⟨r3, ((upd fhd p1.toNatClampNeg ((fhd p1.toNatClampNeg) ||| y1)), fre_4, fse_5), rfl, ht, by rw [ht9]; exact hP9, va_K.moved hW.alike hK, hD9⟩, hS.F ht9⟩) hS.2.2 dX1_tellHas_21
set_option maxHeartbeats 4000000 in
set_option maxRecDepth 100000 in
theorem c_X1_link (l : Launch) (dC : Nat → ClassId) (dI : Nat → Nat → Nat) (cI cJ : ClassId) (h0 : Nat) (afbi : Nat) (afab : Nat) (afhd : Nat) (afin : Nat) (afjo : Nat) (afnu : Nat) (afre : Nat) (afse : Nat) (nv : Int32) (na : Int32) (fre : Nat → Int64) (fse : Nat → Int32) (sz : Nat) (p1 : Int32) (p2 : Int32) (post : Int32 → (Nat → Int64) → (Nat → Int32) → Prop) (hsp : S_X1_link p1 p2 nv fre fse post) : Met l yX1_link wsX1_link ({ frames := 2, cells := 0, slots := 0, locals := 48 }) (va_Pc [.ref h0, .int p1, .int p2] (fun U => U.heap.size = sz ∧ va_P (dC, dI) vwCl [(h0, .inr (1, [.int nv, .int na, .ref afbi, .ref afab, .ref afhd, .ref afin, .ref afjo, .ref afnu, .ref afre, .ref afse])), (afre, .inl (cJ, 60, .inr (.inl fre))), (afse, .inl (cI, 60, .inl fse))] U.heap ∧ va_K (dC, dI) vwCl [(cI, .int), (cJ, .long)] U ∧ va_D (fun _ => True) [(h0, .inr (1, [.int nv, .int na, .ref afbi, .ref afab, .ref afhd, .ref afin, .ref afjo, .ref afnu, .ref afre, .ref afse])), (afre, .inl (cJ, 60, .inr (.inl fre))), (afse, .inl (cI, 60, .inl fse))] ∧ nw U)) (va_Qi (fun (r : Int32) (u : (Nat → Int64) × (Nat → Int32)) => post r (u.1) (u.2)) (fun (u : (Nat → Int64) × (Nat → Int32)) (t : State) => va_P (dC, dI) vwCl [(h0, .inr (1, [.int nv, .int na, .ref afbi, .ref afab, .ref afhd, .ref afin, .ref afjo, .ref afnu, .ref afre, .ref afse])), (afre, .inl (cJ, 60, .inr (.inl (u.1)))), (afse, .inl (cI, 60, .inl (u.2)))] t.heap ∧ va_K (dC, dI) vwCl [(cI, .int), (cJ, .long)] t ∧ va_D (va_A [(h0, .inr (1, [.int nv, .int na, .ref afbi, .ref afab, .ref afhd, .ref afin, .ref afjo, .ref afnu, .ref afre, .ref afse])), (afre, .inl (cJ, 60, .inr (.inl fre))), (afse, .inl (cI, 60, .inl fse))] sz) [(h0, .inr (1, [.int nv, .int na, .ref afbi, .ref afab, .ref afhd, .ref afin, .ref afjo, .ref afnu, .ref afre, .ref afse])), (afre, .inl (cJ, 60, .inr (.inl (u.1)))), (afse, .inl (cI, 60, .inl (u.2)))]) (va_A [(h0, .inr (1, [.int nv, .int na, .ref afbi, .ref afab, .ref afhd, .ref afin, .ref afjo, .ref afnu, .ref afre, .ref afse])), (afre, .inl (cJ, 60, .inr (.inl fre))), (afse, .inl (cI, 60, .inl fse))] sz)) 0 0 (va_A [(h0, .inr (1, [.int nv, .int na, .ref afbi, .ref afab, .ref afhd, .ref afin, .ref afjo, .ref afnu, .ref afre, .ref afse])), (afre, .inl (cJ, 60, .inr (.inl fre))), (afse, .inl (cI, 60, .inl fse))] sz) := by
  refine Met.ofW (cc := cX1_link) (maxL := 3) (ret := (some .int)) (by decide) rfl ?_
  intro p e s m args below meth c s₁ B hml hv
  obtain ⟨rfl, hsz, hP, hK, hD0, hN⟩ := hv
  have hx := B.exec
  have hb := B.bytes
  have hr := B.returns
  have hts := atoms_spec (ws := wsX1_link) B.pre
  have hown : s.vm.findClass RX1 = some m.cls := findClass_of_methodNamed B.named
  have hlocks := B.notSynchronized
  subst hsz
  have hD := hD0.self (sz := s.heap.size)
  generalize hAe : va_A [(h0, .inr (1, [.int nv, .int na, .ref afbi, .ref afab, .ref afhd, .ref afin, .ref afjo, .ref afnu, .ref afre, .ref afse])), (afre, .inl (cJ, 60, .inr (.inl fre))), (afse, .inl (cI, 60, .inl fse))] s.heap.size = A at hD ⊢
  have hA : ∀ q : Nat, s.heap.size ≤ q → A q := fun q h => by rw [← hAe]; exact Or.inr h
  have hS : va_S A s.heap s.heap [] := va_S.rf
  have hl := lv_entry ([.ref h0, .int p1, .int p2]) (n := 3) (Nat.le_of_ble_eq_true rfl)
  rw [lg_entry_eq]
  generalize (lg_sl ([.ref h0, .int p1, .int p2]) ++ List.replicate (3 - (lg_sl ([.ref h0, .int p1, .int p2])).length) Slot.unset).toArray = ls at hl ⊢
  replace hl : lv_has ls 3 [(0, .ref h0), (1, .int p1), (2, .int p2)] := hl
  have hw0 := (show ∀ w ∈ wsX10, w ∈ wsX1_link from by decide +kernel)
  have hw1 := hts (.fieldLink RX1 38 "EffectNets$Net" "reached" "[J") (by decide +kernel)
  have hw2 := hts (.initialized RX3) (by decide +kernel)
  have hw3 := hts (.static yX3_contains) (by decide +kernel)
  have hw4 := hts (.fieldLink RX1 41 "EffectNets$Net" "sets" "[I") (by decide +kernel)
  refine hsp _ ?_
  · intro ht
    refine lv_aload_n hx hb dX1_link_0 rfl (lv_at hl 0 rfl) ?_
    refine va_get (D := (dC, dI)) (ci := 1) (v := .ref afre) (C := RX1) (T := TX1) (N := 10) hx hb hts hw0 hown hK hP 0 rfl rfl 8 (by decide) hw1 (fun _ h9 => h9) rfl dX1_link_1 ?_
    refine lv_iload_n hx hb dX1_link_4 rfl (lv_at hl 1 rfl) ?_
    obtain ⟨i1, ht⟩ := ht
    refine va_lald hx hb hK hP 1 1 rfl rfl i1 dX1_link_5 ?_
    refine lv_iload_n hx hb dX1_link_6 rfl (lv_at hl 2 rfl) ?_
    have hPc := hP.sub (ws' := []) [] rfl
    have hDc := hD.sub (ws' := []) [] (by decide) rfl
    have hFc := va_free (wc := []) hD hS hA [] rfl
    refine va_calli (va_runSN (As := [.long (fre p1.toNatClampNeg), .int p2]) (rest := []) ⟨hx, hb, hml, hown, hts⟩ (c_X3_contains l dC dI cI cJ  s.heap.size (fre p1.toNatClampNeg) p2 _ ht) ⟨va_cnB 2 hts gX1_link_X3_contains_n71 rfl rfl rfl hN.2.2.2.2.1 hw2 (by decide +kernel) ⟨Nat.le_of_ble_eq_true rfl, Nat.le_of_ble_eq_true rfl⟩, hw3, trivial⟩ ⟨fun a U g mk q => by obtain ⟨q0, q1, qP, qK, qD, qN⟩ := q; exact ⟨q0, q1, qP, va_K.moved (u := U) (U := U.calling g mk a) (Vm.Alike.refl U.vm) qK, qD, nw_same rfl qN⟩, fun U hU hW => ⟨rfl, by rw [hU], by rw [hU]; exact hPc, va_K.moved hW.alike hK, hDc.weaken (fun _ _ _ _ => trivial), nw_warm hW hN⟩⟩ rfl rfl hl.1 rfl (lv_room (Nat.le_of_ble_eq_true rfl)) dX1_link_7 ⟨Nat.le_of_ble_eq_true rfl, Nat.le_of_ble_eq_true rfl⟩) hS (fun q _ h => hFc q h) hFc (fun r2 u t H1 locs ht9 hvm hw hB hz1 hk1 hS => ?_)
    obtain ⟨hP1, hK1, hD1⟩ := hB
    rw [ht9] at hP1
    try dsimp only at hw
    replace ht := hw
    obtain ⟨hP, hD⟩ := va_join (wr := [(h0, .inr (1, [.int nv, .int na, .ref afbi, .ref afab, .ref afhd, .ref afin, .ref afjo, .ref afnu, .ref afre, .ref afse])), (afre, .inl (cJ, 60, .inr (.inl fre))), (afse, .inl (cI, 60, .inl fse))]) (w1 := []) hP hD [] [0, 1, 2] rfl rfl (by decide) (by decide) hk1 hFc hP1 hD1
    generalize H1 = H at hP hS ⊢
    replace hP : va_P (dC, dI) vwCl [(h0, .inr (1, [.int nv, .int na, .ref afbi, .ref afab, .ref afhd, .ref afin, .ref afjo, .ref afnu, .ref afre, .ref afse])), (afre, .inl (cJ, 60, .inr (.inl fre))), (afse, .inl (cI, 60, .inl fse))] H := hP
    replace hD : va_D A [(h0, .inr (1, [.int nv, .int na, .ref afbi, .ref afab, .ref afhd, .ref afin, .ref afjo, .ref afnu, .ref afre, .ref afse])), (afre, .inl (cJ, 60, .inr (.inl fre))), (afse, .inl (cI, 60, .inl fse))] := hD
    refine lv_if_eq (tgt := 15) hx hb dX1_link_10 (by decide) (fun c3 => ?_) (fun c3 => ?_)
    · replace ht := ht.1 c3
      refine lv_aload_n hx hb dX1_link_15 rfl (lv_at hl 0 rfl) ?_
      refine lv_iload_n hx hb dX1_link_16 rfl (lv_at hl 1 rfl) ?_
      refine lv_aload_n hx hb dX1_link_17 rfl (lv_at hl 0 rfl) ?_
      refine va_get (D := (dC, dI)) (ci := 1) (v := .ref afre) (C := RX1) (T := TX1) (N := 10) hx hb hts hw0 hown hK hP 0 rfl rfl 8 (by decide) hw1 (fun _ h9 => h9) rfl dX1_link_18 ?_
      refine lv_iload_n hx hb dX1_link_21 rfl (lv_at hl 2 rfl) ?_
      obtain ⟨i4, ht⟩ := ht
      refine va_lald hx hb hK hP 1 1 rfl rfl i4 dX1_link_22 ?_
      refine lv_aload_n hx hb dX1_link_23 rfl (lv_at hl 0 rfl) ?_
      refine va_get (D := (dC, dI)) (ci := 1) (v := .ref afse) (C := RX1) (T := TX1) (N := 10) hx hb hts hw0 hown hK hP 0 rfl rfl 9 (by decide) hw4 (fun _ h9 => h9) rfl dX1_link_24 ?_
      refine lv_iload_n hx hb dX1_link_27 rfl (lv_at hl 2 rfl) ?_
      refine va_iald hx hb hK hP 2 0 rfl rfl i4 dX1_link_28 ?_
      have hPc := hP.sub (ws' := [(h0, .inr (1, [.int nv, .int na, .ref afbi, .ref afab, .ref afhd, .ref afin, .ref afjo, .ref afnu, .ref afre, .ref afse])), (afre, .inl (cJ, 60, .inr (.inl fre))), (afse, .inl (cI, 60, .inl fse))]) [0, 1, 2] rfl
      have hDc := hD.sub (ws' := [(h0, .inr (1, [.int nv, .int na, .ref afbi, .ref afab, .ref afhd, .ref afin, .ref afjo, .ref afnu, .ref afre, .ref afse])), (afre, .inl (cJ, 60, .inr (.inl fre))), (afse, .inl (cI, 60, .inl fse))]) [0, 1, 2] (by decide) rfl
      have hFc := va_free (wc := [(h0, .inr (1, [.int nv, .int na, .ref afbi, .ref afab, .ref afhd, .ref afin, .ref afjo, .ref afnu, .ref afre, .ref afse])), (afre, .inl (cJ, 60, .inr (.inl fre))), (afse, .inl (cI, 60, .inl fse))]) hD hS hA [0, 1, 2] rfl
      refine va_calli (va_runV (As := [.int p1, .long (fre p2.toNatClampNeg), .int (fse p2.toNatClampNeg)]) (rest := []) ⟨hx, hb, hml, hown, hts⟩ (c_X1_spread l dC dI cI cJ h0 afbi afab afhd afin afjo afnu afre afse nv na fre fse H.size p1 (fre p2.toNatClampNeg) (fse p2.toNatClampNeg) _ ht) (cwV 3 hts gX1_link_X1_spread rfl rfl rfl (by decide +kernel) ⟨Nat.le_of_ble_eq_true rfl, Nat.le_of_ble_eq_true rfl⟩) ⟨fun a U g mk q => by obtain ⟨q0, q1, qP, qK, qD, qN⟩ := q; exact ⟨q0, q1, qP, va_K.moved (u := U) (U := U.calling g mk a) (Vm.Alike.refl U.vm) qK, qD, nw_same rfl qN⟩, va_recv hK hP (ci := 1) (q0 := 0) rfl rfl, fun U hU hW => ⟨rfl, by rw [hU], by rw [hU]; exact hPc, va_K.moved hW.alike hK, hDc.weaken (fun _ _ _ _ => trivial), nw_warm hW hN⟩⟩ rfl rfl hl.1 rfl (lv_room (Nat.le_of_ble_eq_true rfl)) dX1_link_29 ⟨Nat.le_of_ble_eq_true rfl, Nat.le_of_ble_eq_true rfl⟩) hS (fun q _ h => hFc q h) hFc (fun r5 u t H1 locs ht9 hvm hw hB hz1 hk1 hS => ?_)
      obtain ⟨fre_6, fse_7⟩ := u
      obtain ⟨hP1, hK1, hD1⟩ := hB
      rw [ht9] at hP1
      try dsimp only at hw
      replace ht := hw
      obtain ⟨hP, hD⟩ := va_join (wr := []) (w1 := [(h0, .inr (1, [.int nv, .int na, .ref afbi, .ref afab, .ref afhd, .ref afin, .ref afjo, .ref afnu, .ref afre, .ref afse])), (afre, .inl (cJ, 60, .inr (.inl fre_6))), (afse, .inl (cI, 60, .inl fse_7))]) hP hD [0, 1, 2] [] rfl rfl (by decide) (by decide) hk1 hFc hP1 hD1
      generalize H1 = H at hP hS ⊢
      replace hP : va_P (dC, dI) vwCl [(h0, .inr (1, [.int nv, .int na, .ref afbi, .ref afab, .ref afhd, .ref afin, .ref afjo, .ref afnu, .ref afre, .ref afse])), (afre, .inl (cJ, 60, .inr (.inl fre_6))), (afse, .inl (cI, 60, .inl fse_7))] H := hP
      replace hD : va_D A [(h0, .inr (1, [.int nv, .int na, .ref afbi, .ref afab, .ref afhd, .ref afin, .ref afjo, .ref afnu, .ref afre, .ref afse])), (afre, .inl (cJ, 60, .inr (.inl fre_6))), (afse, .inl (cI, 60, .inl fse_7))] := hD
      have hP9 : va_P (dC, dI) vwCl [(h0, .inr (1, [.int nv, .int na, .ref afbi, .ref afab, .ref afhd, .ref afin, .ref afjo, .ref afnu, .ref afre, .ref afse])), (afre, .inl (cJ, 60, .inr (.inl fre_6))), (afse, .inl (cI, 60, .inl fse_7))] _ := hP
      have hD9 : va_D A [(h0, .inr (1, [.int nv, .int na, .ref afbi, .ref afab, .ref afhd, .ref afin, .ref afjo, .ref afnu, .ref afre, .ref afse])), (afre, .inl (cJ, 60, .inr (.inl fre_6))), (afse, .inl (cI, 60, .inl fse_7))] := hD
      exact W.iret (v := r5) hx hb hr (fun t ht9 hW => ⟨⟨r5, (fre_6, fse_7), rfl, ht, by rw [ht9]; exact hP9, va_K.moved hW.alike hK, hD9⟩, hS.F ht9⟩) hS.2.2 dX1_link_32
    · replace ht := ht.2 c3
      refine lv_iconst (v := 0) hx hb dX1_link_13 (by decide) ?_
      have hP9 : va_P (dC, dI) vwCl [(h0, .inr (1, [.int nv, .int na, .ref afbi, .ref afab, .ref afhd, .ref afin, .ref afjo, .ref afnu, .ref afre, .ref afse])), (afre, .inl (cJ, 60, .inr (.inl fre))), (afse, .inl (cI, 60, .inl fse))] _ := hP
      have hD9 : va_D A [(h0, .inr (1, [.int nv, .int na, .ref afbi, .ref afab, .ref afhd, .ref afin, .ref afjo, .ref afnu, .ref afre, .ref afse])), (afre, .inl (cJ, 60, .inr (.inl fre))), (afse, .inl (cI, 60, .inl fse))] := hD
      exact W.iret (v := 0) hx hb hr (fun t ht9 hW => ⟨⟨0, (fre, fse), rfl, ht, by rw [ht9]; exact hP9, va_K.moved hW.alike hK, hD9⟩, hS.F ht9⟩) hS.2.2 dX1_link_14
set_option maxHeartbeats 4000000 in
set_option maxRecDepth 100000 in
theorem c_X1_tellIncludes (l : Launch) (dC : Nat → ClassId) (dI : Nat → Nat → Nat) (cI cJ : ClassId) (h0 : Nat) (afbi : Nat) (afab : Nat) (afhd : Nat) (afin : Nat) (afjo : Nat) (afnu : Nat) (afre : Nat) (afse : Nat) (nv : Int32) (na : Int32) (fin : Nat → Int64) (fre : Nat → Int64) (fse : Nat → Int32) (sz : Nat) (p1 : Int32) (p2 : Int32) (post : Int32 → (Nat → Int64) → (Nat → Int64) → (Nat → Int32) → Prop) (hsp : S_X1_tellIncludes p1 p2 nv fin fre fse post) : Met l yX1_tellIncludes wsX1_tellIncludes ({ frames := 3, cells := 0, slots := 0, locals := 70 }) (va_Pc [.ref h0, .int p1, .int p2] (fun U => U.heap.size = sz ∧ va_P (dC, dI) vwCl [(h0, .inr (1, [.int nv, .int na, .ref afbi, .ref afab, .ref afhd, .ref afin, .ref afjo, .ref afnu, .ref afre, .ref afse])), (afin, .inl (cJ, 60, .inr (.inl fin))), (afre, .inl (cJ, 60, .inr (.inl fre))), (afse, .inl (cI, 60, .inl fse))] U.heap ∧ va_K (dC, dI) vwCl [(cI, .int), (cJ, .long)] U ∧ va_D (fun _ => True) [(h0, .inr (1, [.int nv, .int na, .ref afbi, .ref afab, .ref afhd, .ref afin, .ref afjo, .ref afnu, .ref afre, .ref afse])), (afin, .inl (cJ, 60, .inr (.inl fin))), (afre, .inl (cJ, 60, .inr (.inl fre))), (afse, .inl (cI, 60, .inl fse))] ∧ nw U)) (va_Qi (fun (r : Int32) (u : (Nat → Int64) × (Nat → Int64) × (Nat → Int32)) => post r (u.1) (u.2.1) (u.2.2)) (fun (u : (Nat → Int64) × (Nat → Int64) × (Nat → Int32)) (t : State) => va_P (dC, dI) vwCl [(h0, .inr (1, [.int nv, .int na, .ref afbi, .ref afab, .ref afhd, .ref afin, .ref afjo, .ref afnu, .ref afre, .ref afse])), (afin, .inl (cJ, 60, .inr (.inl (u.1)))), (afre, .inl (cJ, 60, .inr (.inl (u.2.1)))), (afse, .inl (cI, 60, .inl (u.2.2)))] t.heap ∧ va_K (dC, dI) vwCl [(cI, .int), (cJ, .long)] t ∧ va_D (va_A [(h0, .inr (1, [.int nv, .int na, .ref afbi, .ref afab, .ref afhd, .ref afin, .ref afjo, .ref afnu, .ref afre, .ref afse])), (afin, .inl (cJ, 60, .inr (.inl fin))), (afre, .inl (cJ, 60, .inr (.inl fre))), (afse, .inl (cI, 60, .inl fse))] sz) [(h0, .inr (1, [.int nv, .int na, .ref afbi, .ref afab, .ref afhd, .ref afin, .ref afjo, .ref afnu, .ref afre, .ref afse])), (afin, .inl (cJ, 60, .inr (.inl (u.1)))), (afre, .inl (cJ, 60, .inr (.inl (u.2.1)))), (afse, .inl (cI, 60, .inl (u.2.2)))]) (va_A [(h0, .inr (1, [.int nv, .int na, .ref afbi, .ref afab, .ref afhd, .ref afin, .ref afjo, .ref afnu, .ref afre, .ref afse])), (afin, .inl (cJ, 60, .inr (.inl fin))), (afre, .inl (cJ, 60, .inr (.inl fre))), (afse, .inl (cI, 60, .inl fse))] sz)) 0 0 (va_A [(h0, .inr (1, [.int nv, .int na, .ref afbi, .ref afab, .ref afhd, .ref afin, .ref afjo, .ref afnu, .ref afre, .ref afse])), (afin, .inl (cJ, 60, .inr (.inl fin))), (afre, .inl (cJ, 60, .inr (.inl fre))), (afse, .inl (cI, 60, .inl fse))] sz) := by
  refine Met.ofW (cc := cX1_tellIncludes) (maxL := 3) (ret := (some .int)) (by decide) rfl ?_
  intro p e s m args below meth c s₁ B hml hv
  obtain ⟨rfl, hsz, hP, hK, hD0, hN⟩ := hv
  have hx := B.exec
  have hb := B.bytes
  have hr := B.returns
  have hts := atoms_spec (ws := wsX1_tellIncludes) B.pre
  have hown : s.vm.findClass RX1 = some m.cls := findClass_of_methodNamed B.named
  have hlocks := B.notSynchronized
  subst hsz
  have hD := hD0.self (sz := s.heap.size)
  generalize hAe : va_A [(h0, .inr (1, [.int nv, .int na, .ref afbi, .ref afab, .ref afhd, .ref afin, .ref afjo, .ref afnu, .ref afre, .ref afse])), (afin, .inl (cJ, 60, .inr (.inl fin))), (afre, .inl (cJ, 60, .inr (.inl fre))), (afse, .inl (cI, 60, .inl fse))] s.heap.size = A at hD ⊢
  have hA : ∀ q : Nat, s.heap.size ≤ q → A q := fun q h => by rw [← hAe]; exact Or.inr h
  have hS : va_S A s.heap s.heap [] := va_S.rf
  have hl := lv_entry ([.ref h0, .int p1, .int p2]) (n := 3) (Nat.le_of_ble_eq_true rfl)
  rw [lg_entry_eq]
  generalize (lg_sl ([.ref h0, .int p1, .int p2]) ++ List.replicate (3 - (lg_sl ([.ref h0, .int p1, .int p2])).length) Slot.unset).toArray = ls at hl ⊢
  replace hl : lv_has ls 3 [(0, .ref h0), (1, .int p1), (2, .int p2)] := hl
  have hw0 := (show ∀ w ∈ wsX10, w ∈ wsX1_tellIncludes from by decide +kernel)
  have hw1 := hts (.fieldLink RX1 28 "EffectNets$Net" "included" "[J") (by decide +kernel)
  have hw2 := hts (.initialized RX3) (by decide +kernel)
  have hw3 := hts (.static yX3_bit) (by decide +kernel)
  refine hsp _ ?_
  · intro ht
    refine lv_aload_n hx hb dX1_tellIncludes_0 rfl (lv_at hl 0 rfl) ?_
    refine va_get (D := (dC, dI)) (ci := 1) (v := .ref afin) (C := RX1) (T := TX1) (N := 10) hx hb hts hw0 hown hK hP 0 rfl rfl 5 (by decide) hw1 (fun _ h9 => h9) rfl dX1_tellIncludes_1 ?_
    refine lv_iload_n hx hb dX1_tellIncludes_4 rfl (lv_at hl 1 rfl) ?_
    refine lv_dup2_11 hx hb dX1_tellIncludes_5 rfl rfl ?_
    obtain ⟨i1, ht⟩ := ht
    refine va_lald hx hb hK hP 1 1 rfl rfl i1 dX1_tellIncludes_6 ?_
    refine lv_iload_n hx hb dX1_tellIncludes_7 rfl (lv_at hl 2 rfl) ?_
    have hPc := hP.sub (ws' := []) [] rfl
    have hDc := hD.sub (ws' := []) [] (by decide) rfl
    have hFc := va_free (wc := []) hD hS hA [] rfl
    refine va_calll (va_runSN (As := [.int p2]) (rest := [.long (fin p1.toNatClampNeg), .int p1, .ref afin]) ⟨hx, hb, hml, hown, hts⟩ (c_X3_bit l dC dI cI cJ  s.heap.size p2 _ ht) ⟨va_cnB 1 hts gX1_tellIncludes_X3_bit_n50 rfl rfl rfl hN.2.2.2.1 hw2 (by decide +kernel) ⟨Nat.le_of_ble_eq_true rfl, Nat.le_of_ble_eq_true rfl⟩, hw3, trivial⟩ ⟨fun a U g mk q => by obtain ⟨q0, q1, qP, qK, qD, qN⟩ := q; exact ⟨q0, q1, qP, va_K.moved (u := U) (U := U.calling g mk a) (Vm.Alike.refl U.vm) qK, qD, nw_same rfl qN⟩, fun U hU hW => ⟨rfl, by rw [hU], by rw [hU]; exact hPc, va_K.moved hW.alike hK, hDc.weaken (fun _ _ _ _ => trivial), nw_warm hW hN⟩⟩ rfl rfl hl.1 rfl (lv_room (Nat.le_of_ble_eq_true rfl)) dX1_tellIncludes_8 ⟨Nat.le_of_ble_eq_true rfl, Nat.le_of_ble_eq_true rfl⟩) hS (fun q _ h => hFc q h) hFc (fun r2 u t H1 locs ht9 hvm hw hB hz1 hk1 hS => ?_)
    obtain ⟨hP1, hK1, hD1⟩ := hB
    rw [ht9] at hP1
    try dsimp only at hw
    replace ht := hw
    obtain ⟨hP, hD⟩ := va_join (wr := [(h0, .inr (1, [.int nv, .int na, .ref afbi, .ref afab, .ref afhd, .ref afin, .ref afjo, .ref afnu, .ref afre, .ref afse])), (afin, .inl (cJ, 60, .inr (.inl fin))), (afre, .inl (cJ, 60, .inr (.inl fre))), (afse, .inl (cI, 60, .inl fse))]) (w1 := []) hP hD [] [0, 1, 2, 3] rfl rfl (by decide) (by decide) hk1 hFc hP1 hD1
    generalize H1 = H at hP hS ⊢
    replace hP : va_P (dC, dI) vwCl [(h0, .inr (1, [.int nv, .int na, .ref afbi, .ref afab, .ref afhd, .ref afin, .ref afjo, .ref afnu, .ref afre, .ref afse])), (afin, .inl (cJ, 60, .inr (.inl fin))), (afre, .inl (cJ, 60, .inr (.inl fre))), (afse, .inl (cI, 60, .inl fse))] H := hP
    replace hD : va_D A [(h0, .inr (1, [.int nv, .int na, .ref afbi, .ref afab, .ref afhd, .ref afin, .ref afjo, .ref afnu, .ref afre, .ref afse])), (afin, .inl (cJ, 60, .inr (.inl fin))), (afre, .inl (cJ, 60, .inr (.inl fre))), (afse, .inl (cI, 60, .inl fse))] := hD
    refine lv_lor hx hb dX1_tellIncludes_11 ?_
    refine va_last hx hb hK hP hD hS 1 1 rfl rfl i1 dX1_tellIncludes_12 (fun H locs hP hD hS => ?_)
    replace hP : va_P (dC, dI) vwCl [(h0, .inr (1, [.int nv, .int na, .ref afbi, .ref afab, .ref afhd, .ref afin, .ref afjo, .ref afnu, .ref afre, .ref afse])), (afin, .inl (cJ, 60, .inr (.inl (vp_updL fin p1.toNatClampNeg ((fin p1.toNatClampNeg) ||| r2))))), (afre, .inl (cJ, 60, .inr (.inl fre))), (afse, .inl (cI, 60, .inl fse))] H := hP
    replace hD : va_D A [(h0, .inr (1, [.int nv, .int na, .ref afbi, .ref afab, .ref afhd, .ref afin, .ref afjo, .ref afnu, .ref afre, .ref afse])), (afin, .inl (cJ, 60, .inr (.inl (vp_updL fin p1.toNatClampNeg ((fin p1.toNatClampNeg) ||| r2))))), (afre, .inl (cJ, 60, .inr (.inl fre))), (afse, .inl (cI, 60, .inl fse))] := hD
    refine lv_aload_n hx hb dX1_tellIncludes_13 rfl (lv_at hl 0 rfl) ?_
    refine lv_iload_n hx hb dX1_tellIncludes_14 rfl (lv_at hl 1 rfl) ?_
    refine lv_iload_n hx hb dX1_tellIncludes_15 rfl (lv_at hl 2 rfl) ?_
    have hPc := hP.sub (ws' := [(h0, .inr (1, [.int nv, .int na, .ref afbi, .ref afab, .ref afhd, .ref afin, .ref afjo, .ref afnu, .ref afre, .ref afse])), (afre, .inl (cJ, 60, .inr (.inl fre))), (afse, .inl (cI, 60, .inl fse))]) [0, 2, 3] rfl
    have hDc := hD.sub (ws' := [(h0, .inr (1, [.int nv, .int na, .ref afbi, .ref afab, .ref afhd, .ref afin, .ref afjo, .ref afnu, .ref afre, .ref afse])), (afre, .inl (cJ, 60, .inr (.inl fre))), (afse, .inl (cI, 60, .inl fse))]) [0, 2, 3] (by decide) rfl
    have hFc := va_free (wc := [(h0, .inr (1, [.int nv, .int na, .ref afbi, .ref afab, .ref afhd, .ref afin, .ref afjo, .ref afnu, .ref afre, .ref afse])), (afre, .inl (cJ, 60, .inr (.inl fre))), (afse, .inl (cI, 60, .inl fse))]) hD hS hA [0, 2, 3] rfl
    refine va_calli (va_runV (As := [.int p1, .int p2]) (rest := []) ⟨hx, hb, hml, hown, hts⟩ (c_X1_link l dC dI cI cJ h0 afbi afab afhd afin afjo afnu afre afse nv na fre fse H.size p1 p2 _ ht) (cwV 2 hts gX1_tellIncludes_X1_link rfl rfl rfl (by decide +kernel) ⟨Nat.le_of_ble_eq_true rfl, Nat.le_of_ble_eq_true rfl⟩) ⟨fun a U g mk q => by obtain ⟨q0, q1, qP, qK, qD, qN⟩ := q; exact ⟨q0, q1, qP, va_K.moved (u := U) (U := U.calling g mk a) (Vm.Alike.refl U.vm) qK, qD, nw_same rfl qN⟩, va_recv hK hP (ci := 1) (q0 := 0) rfl rfl, fun U hU hW => ⟨rfl, by rw [hU], by rw [hU]; exact hPc, va_K.moved hW.alike hK, hDc.weaken (fun _ _ _ _ => trivial), nw_warm hW hN⟩⟩ rfl rfl hl.1 rfl (lv_room (Nat.le_of_ble_eq_true rfl)) dX1_tellIncludes_16 ⟨Nat.le_of_ble_eq_true rfl, Nat.le_of_ble_eq_true rfl⟩) hS (fun q _ h => hFc q h) hFc (fun r3 u t H1 locs ht9 hvm hw hB hz1 hk1 hS => ?_)
    obtain ⟨fre_4, fse_5⟩ := u
    obtain ⟨hP1, hK1, hD1⟩ := hB
    rw [ht9] at hP1
    try dsimp only at hw
    replace ht := hw
    obtain ⟨hP, hD⟩ := va_join (wr := [(afin, .inl (cJ, 60, .inr (.inl (vp_updL fin p1.toNatClampNeg ((fin p1.toNatClampNeg) ||| r2)))))]) (w1 := [(h0, .inr (1, [.int nv, .int na, .ref afbi, .ref afab, .ref afhd, .ref afin, .ref afjo, .ref afnu, .ref afre, .ref afse])), (afre, .inl (cJ, 60, .inr (.inl fre_4))), (afse, .inl (cI, 60, .inl fse_5))]) hP hD [0, 2, 3] [1] rfl rfl (by decide) (by decide) hk1 hFc hP1 hD1
    generalize H1 = H at hP hS ⊢
    replace hP : va_P (dC, dI) vwCl [(afin, .inl (cJ, 60, .inr (.inl (vp_updL fin p1.toNatClampNeg ((fin p1.toNatClampNeg) ||| r2))))), (h0, .inr (1, [.int nv, .int na, .ref afbi, .ref afab, .ref afhd, .ref afin, .ref afjo, .ref afnu, .ref afre, .ref afse])), (afre, .inl (cJ, 60, .inr (.inl fre_4))), (afse, .inl (cI, 60, .inl fse_5))] H := hP
    replace hD : va_D A [(afin, .inl (cJ, 60, .inr (.inl (vp_updL fin p1.toNatClampNeg ((fin p1.toNatClampNeg) ||| r2))))), (h0, .inr (1, [.int nv, .int na, .ref afbi, .ref afab, .ref afhd, .ref afin, .ref afjo, .ref afnu, .ref afre, .ref afse])), (afre, .inl (cJ, 60, .inr (.inl fre_4))), (afse, .inl (cI, 60, .inl fse_5))] := hD
    have hP9 : va_P (dC, dI) vwCl [(h0, .inr (1, [.int nv, .int na, .ref afbi, .ref afab, .ref afhd, .ref afin, .ref afjo, .ref afnu, .ref afre, .ref afse])), (afin, .inl (cJ, 60, .inr (.inl (vp_updL fin p1.toNatClampNeg ((fin p1.toNatClampNeg) ||| r2))))), (afre, .inl (cJ, 60, .inr (.inl fre_4))), (afse, .inl (cI, 60, .inl fse_5))] _ := (hP.sub [1, 0, 2, 3] rfl)
    have hD9 : va_D A [(h0, .inr (1, [.int nv, .int na, .ref afbi, .ref afab, .ref afhd, .ref afin, .ref afjo, .ref afnu, .ref afre, .ref afse])), (afin, .inl (cJ, 60, .inr (.inl (vp_updL fin p1.toNatClampNeg ((fin p1.toNatClampNeg) ||| r2))))), (afre, .inl (cJ, 60, .inr (.inl fre_4))), (afse, .inl (cI, 60, .inl fse_5))] := (hD.sub [1, 0, 2, 3] (by decide) rfl)
    exact W.iret (v := r3) hx hb hr (fun t ht9 hW => ⟨⟨r3, ((vp_updL fin p1.toNatClampNeg ((fin p1.toNatClampNeg) ||| r2)), fre_4, fse_5), rfl, ht, by rw [ht9]; exact hP9, va_K.moved hW.alike hK, hD9⟩, hS.F ht9⟩) hS.2.2 dX1_tellIncludes_19
set_option maxHeartbeats 4000000 in
set_option maxRecDepth 100000 in
theorem c_X1_mergeNodes (l : Launch) (dC : Nat → ClassId) (dI : Nat → Nat → Nat) (cI cJ : ClassId) (h0 : Nat) (afbi : Nat) (afab : Nat) (afhd : Nat) (afin : Nat) (afjo : Nat) (afnu : Nat) (afre : Nat) (afse : Nat) (nv : Int32) (na : Int32) (fnu : Nat → Int32) (sz : Nat) (p1 : Int32) (p2 : Int32) (post : (Nat → Int32) → Prop) (hsp : S_X1_mergeNodes p1 p2 nv fnu post) : Met l yX1_mergeNodes wsX1_mergeNodes ({ frames := 1, cells := 0, slots := 0, locals := 21 }) (va_Pc [.ref h0, .int p1, .int p2] (fun U => U.heap.size = sz ∧ va_P (dC, dI) vwCl [(h0, .inr (1, [.int nv, .int na, .ref afbi, .ref afab, .ref afhd, .ref afin, .ref afjo, .ref afnu, .ref afre, .ref afse])), (afnu, .inl (cI, 60, .inl fnu))] U.heap ∧ va_K (dC, dI) vwCl [(cI, .int), (cJ, .long)] U ∧ va_D (fun _ => True) [(h0, .inr (1, [.int nv, .int na, .ref afbi, .ref afab, .ref afhd, .ref afin, .ref afjo, .ref afnu, .ref afre, .ref afse])), (afnu, .inl (cI, 60, .inl fnu))] ∧ nw U)) (va_Qv (fun (u : (Nat → Int32)) => post u) (fun (u : (Nat → Int32)) (t : State) => va_P (dC, dI) vwCl [(h0, .inr (1, [.int nv, .int na, .ref afbi, .ref afab, .ref afhd, .ref afin, .ref afjo, .ref afnu, .ref afre, .ref afse])), (afnu, .inl (cI, 60, .inl u))] t.heap ∧ va_K (dC, dI) vwCl [(cI, .int), (cJ, .long)] t ∧ va_D (va_A [(h0, .inr (1, [.int nv, .int na, .ref afbi, .ref afab, .ref afhd, .ref afin, .ref afjo, .ref afnu, .ref afre, .ref afse])), (afnu, .inl (cI, 60, .inl fnu))] sz) [(h0, .inr (1, [.int nv, .int na, .ref afbi, .ref afab, .ref afhd, .ref afin, .ref afjo, .ref afnu, .ref afre, .ref afse])), (afnu, .inl (cI, 60, .inl u))]) (va_A [(h0, .inr (1, [.int nv, .int na, .ref afbi, .ref afab, .ref afhd, .ref afin, .ref afjo, .ref afnu, .ref afre, .ref afse])), (afnu, .inl (cI, 60, .inl fnu))] sz)) 0 0 (va_A [(h0, .inr (1, [.int nv, .int na, .ref afbi, .ref afab, .ref afhd, .ref afin, .ref afjo, .ref afnu, .ref afre, .ref afse])), (afnu, .inl (cI, 60, .inl fnu))] sz) := by
  refine Met.ofW (cc := cX1_mergeNodes) (maxL := 5) (ret := none) (by decide) rfl ?_
  intro p e s m args below meth c s₁ B hml hv
  obtain ⟨rfl, hsz, hP, hK, hD0, hN⟩ := hv
  have hx := B.exec
  have hb := B.bytes
  have hr := B.returns
  have hts := atoms_spec (ws := wsX1_mergeNodes) B.pre
  have hown : s.vm.findClass RX1 = some m.cls := findClass_of_methodNamed B.named
  have hlocks := B.notSynchronized
  subst hsz
  have hD := hD0.self (sz := s.heap.size)
  generalize hAe : va_A [(h0, .inr (1, [.int nv, .int na, .ref afbi, .ref afab, .ref afhd, .ref afin, .ref afjo, .ref afnu, .ref afre, .ref afse])), (afnu, .inl (cI, 60, .inl fnu))] s.heap.size = A at hD ⊢
  have hA : ∀ q : Nat, s.heap.size ≤ q → A q := fun q h => by rw [← hAe]; exact Or.inr h
  have hS : va_S A s.heap s.heap [] := va_S.rf
  have hl := lv_entry ([.ref h0, .int p1, .int p2]) (n := 5) (Nat.le_of_ble_eq_true rfl)
  rw [lg_entry_eq]
  generalize (lg_sl ([.ref h0, .int p1, .int p2]) ++ List.replicate (5 - (lg_sl ([.ref h0, .int p1, .int p2])).length) Slot.unset).toArray = ls at hl ⊢
  replace hl : lv_has ls 5 [(0, .ref h0), (1, .int p1), (2, .int p2)] := hl
  have hw0 := (show ∀ w ∈ wsX10, w ∈ wsX1_mergeNodes from by decide +kernel)
  have hw1 := hts (.fieldLink RX1 9 "EffectNets$Net" "variables" "I") (by decide +kernel)
  have hw2 := hts (.fieldLink RX1 35 "EffectNets$Net" "numbers" "[I") (by decide +kernel)
  have hw3 := hts (.methodLink RX1 66 Lib.Math.min.name) (by decide +kernel)
  have hw4 := hts (.static Lib.Math.min.name) (by decide +kernel)
  have hw5 := hts (.initialized "java/lang/Math") (by decide +kernel)
  have hw6 := hts (.code Lib.Math.min.name Lib.Math.min.code 2 (some .int)) (by decide +kernel)
  refine hsp _ (fun (x3 : Int32) (x4 : Int32) (fnu : Nat → Int32) => ∀ (H : Heap) (locs : List Loc) (ls : Array Slot), va_P (dC, dI) vwCl [(h0, .inr (1, [.int nv, .int na, .ref afbi, .ref afab, .ref afhd, .ref afin, .ref afjo, .ref afnu, .ref afre, .ref afse])), (afnu, .inl (cI, 60, .inl fnu))] H → va_D A [(h0, .inr (1, [.int nv, .int na, .ref afbi, .ref afab, .ref afhd, .ref afin, .ref afjo, .ref afnu, .ref afre, .ref afse])), (afnu, .inl (cI, 60, .inl fnu))] → va_S A s.heap H locs → lv_has ls 5 [(0, .ref h0), (1, .int p1), (2, .int p2), (3, .int x3), (4, .int x4)] → W p l e (headSpec wsX1_mergeNodes ({ frames := 1, cells := 0, slots := 0, locals := 21 })).room s m (List.toArray [.ref h0, .int p1, .int p2]) below meth c H locs 0 0 (MQ below (va_Qv (fun (u : (Nat → Int32)) => post u) (fun (u : (Nat → Int32)) (t : State) => va_P (dC, dI) vwCl [(h0, .inr (1, [.int nv, .int na, .ref afbi, .ref afab, .ref afhd, .ref afin, .ref afjo, .ref afnu, .ref afre, .ref afse])), (afnu, .inl (cI, 60, .inl u))] t.heap ∧ va_K (dC, dI) vwCl [(cI, .int), (cJ, .long)] t ∧ va_D A [(h0, .inr (1, [.int nv, .int na, .ref afbi, .ref afab, .ref afhd, .ref afin, .ref afjo, .ref afnu, .ref afre, .ref afse])), (afnu, .inl (cI, 60, .inl u))]) A) (List.toArray [.ref h0, .int p1, .int p2]) s 0 0 A) (F0 m 9 ls [])) ?_ ?_
  · intro x3 x4 fnu ht H locs ls hP hD hS hl
    refine lv_iload hx hb dX1_mergeNodes_9 (lv_at hl 4 rfl) ?_
    refine lv_aload_n hx hb dX1_mergeNodes_11 rfl (lv_at hl 0 rfl) ?_
    refine va_get (D := (dC, dI)) (ci := 1) (v := .int nv) (C := RX1) (T := TX1) (N := 10) hx hb hts hw0 hown hK hP 0 rfl rfl 0 (by decide) hw1 (fun _ h9 => h9) rfl dX1_mergeNodes_12 ?_
    refine lv_icmp_ge (tgt := 54) hx hb dX1_mergeNodes_15 (by decide) (fun c1 => ?_) (fun c1 => ?_)
    · replace ht := ht.1 c1
      have hP9 : va_P (dC, dI) vwCl [(h0, .inr (1, [.int nv, .int na, .ref afbi, .ref afab, .ref afhd, .ref afin, .ref afjo, .ref afnu, .ref afre, .ref afse])), (afnu, .inl (cI, 60, .inl fnu))] _ := hP
      have hD9 : va_D A [(h0, .inr (1, [.int nv, .int na, .ref afbi, .ref afab, .ref afhd, .ref afin, .ref afjo, .ref afnu, .ref afre, .ref afse])), (afnu, .inl (cI, 60, .inl fnu))] := hD
      exact W.vret hx hb hr (fun t ht9 hW => ⟨⟨fnu, rfl, ht, by rw [ht9]; exact hP9, va_K.moved hW.alike hK, hD9⟩, hS.F ht9⟩) hS.2.2 dX1_mergeNodes_54
    · replace ht := ht.2 c1
      refine lv_aload_n hx hb dX1_mergeNodes_18 rfl (lv_at hl 0 rfl) ?_
      refine va_get (D := (dC, dI)) (ci := 1) (v := .ref afnu) (C := RX1) (T := TX1) (N := 10) hx hb hts hw0 hown hK hP 0 rfl rfl 7 (by decide) hw2 (fun _ h9 => h9) rfl dX1_mergeNodes_19 ?_
      refine lv_iload hx hb dX1_mergeNodes_22 (lv_at hl 4 rfl) ?_
      obtain ⟨i2, ht⟩ := ht
      refine va_iald hx hb hK hP 1 0 rfl rfl i2 dX1_mergeNodes_24 ?_
      refine lv_iload_n hx hb dX1_mergeNodes_25 rfl (lv_at hl 1 rfl) ?_
      refine lv_icmp_eq (tgt := 40) hx hb dX1_mergeNodes_26 (by decide) (fun c3 => ?_) (fun c3 => ?_)
      · replace ht := ht.1 c3
        refine lv_aload_n hx hb dX1_mergeNodes_40 rfl (lv_at hl 0 rfl) ?_
        refine va_get (D := (dC, dI)) (ci := 1) (v := .ref afnu) (C := RX1) (T := TX1) (N := 10) hx hb hts hw0 hown hK hP 0 rfl rfl 7 (by decide) hw2 (fun _ h9 => h9) rfl dX1_mergeNodes_41 ?_
        refine lv_iload hx hb dX1_mergeNodes_44 (lv_at hl 4 rfl) ?_
        refine lv_iload_n hx hb dX1_mergeNodes_46 rfl (lv_at hl 3 rfl) ?_
        refine va_iast hx hb hK hP hD hS 1 0 rfl rfl i2 dX1_mergeNodes_47 (fun H locs hP hD hS => ?_)
        replace hP : va_P (dC, dI) vwCl [(h0, .inr (1, [.int nv, .int na, .ref afbi, .ref afab, .ref afhd, .ref afin, .ref afjo, .ref afnu, .ref afre, .ref afse])), (afnu, .inl (cI, 60, .inl (upd fnu x4.toNatClampNeg x3)))] H := hP
        replace hD : va_D A [(h0, .inr (1, [.int nv, .int na, .ref afbi, .ref afab, .ref afhd, .ref afin, .ref afjo, .ref afnu, .ref afre, .ref afse])), (afnu, .inl (cI, 60, .inl (upd fnu x4.toNatClampNeg x3)))] := hD
        obtain ⟨y4, ey4⟩ : ∃ y : Int32, y = x4 + 1 := ⟨_, rfl⟩
        replace ht := ht y4 ey4
        refine lv_iinc (v := y4) (lv' := [(4, .int y4), (0, .ref h0), (1, .int p1), (2, .int p2), (3, .int x3)]) hx hb dX1_mergeNodes_48 hl (k := 4) rfl (by rw [ey4]; rfl) (by decide) rfl (fun ls hl => ?_)
        refine lv_goto (tgt := 9) hx hb dX1_mergeNodes_51 (by decide) ?_
        exact ht _ _ _ hP hD hS (lv_sub hl [1, 2, 3, 4, 0] rfl)
      · replace ht := ht.2 c3
        refine lv_aload_n hx hb dX1_mergeNodes_29 rfl (lv_at hl 0 rfl) ?_
        refine va_get (D := (dC, dI)) (ci := 1) (v := .ref afnu) (C := RX1) (T := TX1) (N := 10) hx hb hts hw0 hown hK hP 0 rfl rfl 7 (by decide) hw2 (fun _ h9 => h9) rfl dX1_mergeNodes_30 ?_
        refine lv_iload hx hb dX1_mergeNodes_33 (lv_at hl 4 rfl) ?_
        refine va_iald hx hb hK hP 1 0 rfl rfl i2 dX1_mergeNodes_35 ?_
        refine lv_iload_n hx hb dX1_mergeNodes_36 rfl (lv_at hl 2 rfl) ?_
        refine lv_icmp_ne (tgt := 48) hx hb dX1_mergeNodes_37 (by decide) (fun c5 => ?_) (fun c5 => ?_)
        · replace ht := ht.1 c5
          obtain ⟨y6, ey6⟩ : ∃ y : Int32, y = x4 + 1 := ⟨_, rfl⟩
          replace ht := ht y6 ey6
          refine lv_iinc (v := y6) (lv' := [(4, .int y6), (0, .ref h0), (1, .int p1), (2, .int p2), (3, .int x3)]) hx hb dX1_mergeNodes_48 hl (k := 4) rfl (by rw [ey6]; rfl) (by decide) rfl (fun ls hl => ?_)
          refine lv_goto (tgt := 9) hx hb dX1_mergeNodes_51 (by decide) ?_
          exact ht _ _ _ hP hD hS (lv_sub hl [1, 2, 3, 4, 0] rfl)
        · replace ht := ht.2 c5
          refine lv_aload_n hx hb dX1_mergeNodes_40 rfl (lv_at hl 0 rfl) ?_
          refine va_get (D := (dC, dI)) (ci := 1) (v := .ref afnu) (C := RX1) (T := TX1) (N := 10) hx hb hts hw0 hown hK hP 0 rfl rfl 7 (by decide) hw2 (fun _ h9 => h9) rfl dX1_mergeNodes_41 ?_
          refine lv_iload hx hb dX1_mergeNodes_44 (lv_at hl 4 rfl) ?_
          refine lv_iload_n hx hb dX1_mergeNodes_46 rfl (lv_at hl 3 rfl) ?_
          refine va_iast hx hb hK hP hD hS 1 0 rfl rfl i2 dX1_mergeNodes_47 (fun H locs hP hD hS => ?_)
          replace hP : va_P (dC, dI) vwCl [(h0, .inr (1, [.int nv, .int na, .ref afbi, .ref afab, .ref afhd, .ref afin, .ref afjo, .ref afnu, .ref afre, .ref afse])), (afnu, .inl (cI, 60, .inl (upd fnu x4.toNatClampNeg x3)))] H := hP
          replace hD : va_D A [(h0, .inr (1, [.int nv, .int na, .ref afbi, .ref afab, .ref afhd, .ref afin, .ref afjo, .ref afnu, .ref afre, .ref afse])), (afnu, .inl (cI, 60, .inl (upd fnu x4.toNatClampNeg x3)))] := hD
          obtain ⟨y7, ey7⟩ : ∃ y : Int32, y = x4 + 1 := ⟨_, rfl⟩
          replace ht := ht y7 ey7
          refine lv_iinc (v := y7) (lv' := [(4, .int y7), (0, .ref h0), (1, .int p1), (2, .int p2), (3, .int x3)]) hx hb dX1_mergeNodes_48 hl (k := 4) rfl (by rw [ey7]; rfl) (by decide) rfl (fun ls hl => ?_)
          refine lv_goto (tgt := 9) hx hb dX1_mergeNodes_51 (by decide) ?_
          exact ht _ _ _ hP hD hS (lv_sub hl [1, 2, 3, 4, 0] rfl)
  · intro ht
    refine lv_iload_n hx hb dX1_mergeNodes_0 rfl (lv_at hl 1 rfl) ?_
    refine lv_iload_n hx hb dX1_mergeNodes_1 rfl (lv_at hl 2 rfl) ?_
    refine va_mmin hx hb (hml.trans hl.1.symm) hown hw3 hw4 hw5 hw6 (Nat.le_of_ble_eq_true rfl) (Nat.le_of_ble_eq_true rfl) (Nat.zero_le _) (Nat.zero_le _) dX1_mergeNodes_2 ?_
    refine lv_topi (fun y8 ey8 => ?_)
    replace ht := ht y8 ey8
    refine lv_istore_n (lv' := [(3, .int y8), (0, .ref h0), (1, .int p1), (2, .int p2)]) hx hb dX1_mergeNodes_5 rfl hl (by decide) rfl (fun ls hl => ?_)
    refine lv_iconst (v := 0) hx hb dX1_mergeNodes_6 (by decide) ?_
    refine lv_istore (lv' := [(4, .int 0), (3, .int y8), (0, .ref h0), (1, .int p1), (2, .int p2)]) hx hb dX1_mergeNodes_7 hl (by decide) rfl (fun ls hl => ?_)
    exact ht _ _ _ hP hD hS (lv_sub hl [2, 3, 4, 1, 0] rfl)
set_option maxHeartbeats 4000000 in
set_option maxRecDepth 100000 in
theorem c_X1_tellOne (l : Launch) (dC : Nat → ClassId) (dI : Nat → Nat → Nat) (cI cJ : ClassId) (h0 : Nat) (afbi : Nat) (afab : Nat) (afhd : Nat) (afin : Nat) (afjo : Nat) (afnu : Nat) (afre : Nat) (afse : Nat) (nv : Int32) (na : Int32) (fjo : Nat → Int64) (fnu : Nat → Int32) (fre : Nat → Int64) (fse : Nat → Int32) (sz : Nat) (p1 : Int32) (p2 : Int32) (post : Int32 → (Nat → Int64) → (Nat → Int32) → (Nat → Int64) → (Nat → Int32) → Prop) (hsp : S_X1_tellOne p1 p2 nv fjo fnu fre fse post) : Met l yX1_tellOne wsX1_tellOne ({ frames := 3, cells := 0, slots := 0, locals := 70 }) (va_Pc [.ref h0, .int p1, .int p2] (fun U => U.heap.size = sz ∧ va_P (dC, dI) vwCl [(h0, .inr (1, [.int nv, .int na, .ref afbi, .ref afab, .ref afhd, .ref afin, .ref afjo, .ref afnu, .ref afre, .ref afse])), (afjo, .inl (cJ, 60, .inr (.inl fjo))), (afnu, .inl (cI, 60, .inl fnu)), (afre, .inl (cJ, 60, .inr (.inl fre))), (afse, .inl (cI, 60, .inl fse))] U.heap ∧ va_K (dC, dI) vwCl [(cI, .int), (cJ, .long)] U ∧ va_D (fun _ => True) [(h0, .inr (1, [.int nv, .int na, .ref afbi, .ref afab, .ref afhd, .ref afin, .ref afjo, .ref afnu, .ref afre, .ref afse])), (afjo, .inl (cJ, 60, .inr (.inl fjo))), (afnu, .inl (cI, 60, .inl fnu)), (afre, .inl (cJ, 60, .inr (.inl fre))), (afse, .inl (cI, 60, .inl fse))] ∧ nw U)) (va_Qi (fun (r : Int32) (u : (Nat → Int64) × (Nat → Int32) × (Nat → Int64) × (Nat → Int32)) => post r (u.1) (u.2.1) (u.2.2.1) (u.2.2.2)) (fun (u : (Nat → Int64) × (Nat → Int32) × (Nat → Int64) × (Nat → Int32)) (t : State) => va_P (dC, dI) vwCl [(h0, .inr (1, [.int nv, .int na, .ref afbi, .ref afab, .ref afhd, .ref afin, .ref afjo, .ref afnu, .ref afre, .ref afse])), (afjo, .inl (cJ, 60, .inr (.inl (u.1)))), (afnu, .inl (cI, 60, .inl (u.2.1))), (afre, .inl (cJ, 60, .inr (.inl (u.2.2.1)))), (afse, .inl (cI, 60, .inl (u.2.2.2)))] t.heap ∧ va_K (dC, dI) vwCl [(cI, .int), (cJ, .long)] t ∧ va_D (va_A [(h0, .inr (1, [.int nv, .int na, .ref afbi, .ref afab, .ref afhd, .ref afin, .ref afjo, .ref afnu, .ref afre, .ref afse])), (afjo, .inl (cJ, 60, .inr (.inl fjo))), (afnu, .inl (cI, 60, .inl fnu)), (afre, .inl (cJ, 60, .inr (.inl fre))), (afse, .inl (cI, 60, .inl fse))] sz) [(h0, .inr (1, [.int nv, .int na, .ref afbi, .ref afab, .ref afhd, .ref afin, .ref afjo, .ref afnu, .ref afre, .ref afse])), (afjo, .inl (cJ, 60, .inr (.inl (u.1)))), (afnu, .inl (cI, 60, .inl (u.2.1))), (afre, .inl (cJ, 60, .inr (.inl (u.2.2.1)))), (afse, .inl (cI, 60, .inl (u.2.2.2)))]) (va_A [(h0, .inr (1, [.int nv, .int na, .ref afbi, .ref afab, .ref afhd, .ref afin, .ref afjo, .ref afnu, .ref afre, .ref afse])), (afjo, .inl (cJ, 60, .inr (.inl fjo))), (afnu, .inl (cI, 60, .inl fnu)), (afre, .inl (cJ, 60, .inr (.inl fre))), (afse, .inl (cI, 60, .inl fse))] sz)) 0 0 (va_A [(h0, .inr (1, [.int nv, .int na, .ref afbi, .ref afab, .ref afhd, .ref afin, .ref afjo, .ref afnu, .ref afre, .ref afse])), (afjo, .inl (cJ, 60, .inr (.inl fjo))), (afnu, .inl (cI, 60, .inl fnu)), (afre, .inl (cJ, 60, .inr (.inl fre))), (afse, .inl (cI, 60, .inl fse))] sz) := by
  refine Met.ofW (cc := cX1_tellOne) (maxL := 3) (ret := (some .int)) (by decide) rfl ?_
  intro p e s m args below meth c s₁ B hml hv
  obtain ⟨rfl, hsz, hP, hK, hD0, hN⟩ := hv
  have hx := B.exec
  have hb := B.bytes
  have hr := B.returns
  have hts := atoms_spec (ws := wsX1_tellOne) B.pre
  have hown : s.vm.findClass RX1 = some m.cls := findClass_of_methodNamed B.named
  have hlocks := B.notSynchronized
  subst hsz
  have hD := hD0.self (sz := s.heap.size)
  generalize hAe : va_A [(h0, .inr (1, [.int nv, .int na, .ref afbi, .ref afab, .ref afhd, .ref afin, .ref afjo, .ref afnu, .ref afre, .ref afse])), (afjo, .inl (cJ, 60, .inr (.inl fjo))), (afnu, .inl (cI, 60, .inl fnu)), (afre, .inl (cJ, 60, .inr (.inl fre))), (afse, .inl (cI, 60, .inl fse))] s.heap.size = A at hD ⊢
  have hA : ∀ q : Nat, s.heap.size ≤ q → A q := fun q h => by rw [← hAe]; exact Or.inr h
  have hS : va_S A s.heap s.heap [] := va_S.rf
  have hl := lv_entry ([.ref h0, .int p1, .int p2]) (n := 3) (Nat.le_of_ble_eq_true rfl)
  rw [lg_entry_eq]
  generalize (lg_sl ([.ref h0, .int p1, .int p2]) ++ List.replicate (3 - (lg_sl ([.ref h0, .int p1, .int p2])).length) Slot.unset).toArray = ls at hl ⊢
  replace hl : lv_has ls 3 [(0, .ref h0), (1, .int p1), (2, .int p2)] := hl
  have hw0 := (show ∀ w ∈ wsX10, w ∈ wsX1_tellOne from by decide +kernel)
  have hw1 := hts (.fieldLink RX1 32 "EffectNets$Net" "joined" "[J") (by decide +kernel)
  have hw2 := hts (.initialized RX3) (by decide +kernel)
  have hw3 := hts (.static yX3_bit) (by decide +kernel)
  have hw4 := hts (.fieldLink RX1 35 "EffectNets$Net" "numbers" "[I") (by decide +kernel)
  refine hsp _ ?_
  · intro ht
    refine lv_iload_n hx hb dX1_tellOne_0 rfl (lv_at hl 1 rfl) ?_
    refine lv_iload_n hx hb dX1_tellOne_1 rfl (lv_at hl 2 rfl) ?_
    refine lv_icmp_ne (tgt := 7) hx hb dX1_tellOne_2 (by decide) (fun c1 => ?_) (fun c1 => ?_)
    · replace ht := ht.1 c1
      refine lv_aload_n hx hb dX1_tellOne_7 rfl (lv_at hl 0 rfl) ?_
      refine va_get (D := (dC, dI)) (ci := 1) (v := .ref afjo) (C := RX1) (T := TX1) (N := 10) hx hb hts hw0 hown hK hP 0 rfl rfl 6 (by decide) hw1 (fun _ h9 => h9) rfl dX1_tellOne_8 ?_
      refine lv_iload_n hx hb dX1_tellOne_11 rfl (lv_at hl 1 rfl) ?_
      refine lv_dup2_11 hx hb dX1_tellOne_12 rfl rfl ?_
      obtain ⟨i2, ht⟩ := ht
      refine va_lald hx hb hK hP 1 1 rfl rfl i2 dX1_tellOne_13 ?_
      refine lv_iload_n hx hb dX1_tellOne_14 rfl (lv_at hl 2 rfl) ?_
      have hPc := hP.sub (ws' := []) [] rfl
      have hDc := hD.sub (ws' := []) [] (by decide) rfl
      have hFc := va_free (wc := []) hD hS hA [] rfl
      refine va_calll (va_runSN (As := [.int p2]) (rest := [.long (fjo p1.toNatClampNeg), .int p1, .ref afjo]) ⟨hx, hb, hml, hown, hts⟩ (c_X3_bit l dC dI cI cJ  s.heap.size p2 _ ht) ⟨va_cnB 1 hts gX1_tellOne_X3_bit_n50 rfl rfl rfl hN.2.2.2.1 hw2 (by decide +kernel) ⟨Nat.le_of_ble_eq_true rfl, Nat.le_of_ble_eq_true rfl⟩, hw3, trivial⟩ ⟨fun a U g mk q => by obtain ⟨q0, q1, qP, qK, qD, qN⟩ := q; exact ⟨q0, q1, qP, va_K.moved (u := U) (U := U.calling g mk a) (Vm.Alike.refl U.vm) qK, qD, nw_same rfl qN⟩, fun U hU hW => ⟨rfl, by rw [hU], by rw [hU]; exact hPc, va_K.moved hW.alike hK, hDc.weaken (fun _ _ _ _ => trivial), nw_warm hW hN⟩⟩ rfl rfl hl.1 rfl (lv_room (Nat.le_of_ble_eq_true rfl)) dX1_tellOne_15 ⟨Nat.le_of_ble_eq_true rfl, Nat.le_of_ble_eq_true rfl⟩) hS (fun q _ h => hFc q h) hFc (fun r3 u t H1 locs ht9 hvm hw hB hz1 hk1 hS => ?_)
      obtain ⟨hP1, hK1, hD1⟩ := hB
      rw [ht9] at hP1
      try dsimp only at hw
      replace ht := hw
      obtain ⟨hP, hD⟩ := va_join (wr := [(h0, .inr (1, [.int nv, .int na, .ref afbi, .ref afab, .ref afhd, .ref afin, .ref afjo, .ref afnu, .ref afre, .ref afse])), (afjo, .inl (cJ, 60, .inr (.inl fjo))), (afnu, .inl (cI, 60, .inl fnu)), (afre, .inl (cJ, 60, .inr (.inl fre))), (afse, .inl (cI, 60, .inl fse))]) (w1 := []) hP hD [] [0, 1, 2, 3, 4] rfl rfl (by decide) (by decide) hk1 hFc hP1 hD1
      generalize H1 = H at hP hS ⊢
      replace hP : va_P (dC, dI) vwCl [(h0, .inr (1, [.int nv, .int na, .ref afbi, .ref afab, .ref afhd, .ref afin, .ref afjo, .ref afnu, .ref afre, .ref afse])), (afjo, .inl (cJ, 60, .inr (.inl fjo))), (afnu, .inl (cI, 60, .inl fnu)), (afre, .inl (cJ, 60, .inr (.inl fre))), (afse, .inl (cI, 60, .inl fse))] H := hP
      replace hD : va_D A [(h0, .inr (1, [.int nv, .int na, .ref afbi, .ref afab, .ref afhd, .ref afin, .ref afjo, .ref afnu, .ref afre, .ref afse])), (afjo, .inl (cJ, 60, .inr (.inl fjo))), (afnu, .inl (cI, 60, .inl fnu)), (afre, .inl (cJ, 60, .inr (.inl fre))), (afse, .inl (cI, 60, .inl fse))] := hD
      refine lv_lor hx hb dX1_tellOne_18 ?_
      refine va_last hx hb hK hP hD hS 1 1 rfl rfl i2 dX1_tellOne_19 (fun H locs hP hD hS => ?_)
      replace hP : va_P (dC, dI) vwCl [(h0, .inr (1, [.int nv, .int na, .ref afbi, .ref afab, .ref afhd, .ref afin, .ref afjo, .ref afnu, .ref afre, .ref afse])), (afjo, .inl (cJ, 60, .inr (.inl (vp_updL fjo p1.toNatClampNeg ((fjo p1.toNatClampNeg) ||| r3))))), (afnu, .inl (cI, 60, .inl fnu)), (afre, .inl (cJ, 60, .inr (.inl fre))), (afse, .inl (cI, 60, .inl fse))] H := hP
      replace hD : va_D A [(h0, .inr (1, [.int nv, .int na, .ref afbi, .ref afab, .ref afhd, .ref afin, .ref afjo, .ref afnu, .ref afre, .ref afse])), (afjo, .inl (cJ, 60, .inr (.inl (vp_updL fjo p1.toNatClampNeg ((fjo p1.toNatClampNeg) ||| r3))))), (afnu, .inl (cI, 60, .inl fnu)), (afre, .inl (cJ, 60, .inr (.inl fre))), (afse, .inl (cI, 60, .inl fse))] := hD
      refine lv_aload_n hx hb dX1_tellOne_20 rfl (lv_at hl 0 rfl) ?_
      refine va_get (D := (dC, dI)) (ci := 1) (v := .ref afjo) (C := RX1) (T := TX1) (N := 10) hx hb hts hw0 hown hK hP 0 rfl rfl 6 (by decide) hw1 (fun _ h9 => h9) rfl dX1_tellOne_21 ?_
      refine lv_iload_n hx hb dX1_tellOne_24 rfl (lv_at hl 2 rfl) ?_
      refine lv_dup2_11 hx hb dX1_tellOne_25 rfl rfl ?_
      obtain ⟨i4, ht⟩ := ht
      refine va_lald hx hb hK hP 1 1 rfl rfl i4 dX1_tellOne_26 ?_
      refine lv_iload_n hx hb dX1_tellOne_27 rfl (lv_at hl 1 rfl) ?_
      have hPc := hP.sub (ws' := []) [] rfl
      have hDc := hD.sub (ws' := []) [] (by decide) rfl
      have hFc := va_free (wc := []) hD hS hA [] rfl
      refine va_calll (va_runSN (As := [.int p1]) (rest := [.long ((vp_updL fjo p1.toNatClampNeg ((fjo p1.toNatClampNeg) ||| r3)) p2.toNatClampNeg), .int p2, .ref afjo]) ⟨hx, hb, hml, hown, hts⟩ (c_X3_bit l dC dI cI cJ  H.size p1 _ ht) ⟨va_cnB 1 hts gX1_tellOne_X3_bit_n50 rfl rfl rfl hN.2.2.2.1 hw2 (by decide +kernel) ⟨Nat.le_of_ble_eq_true rfl, Nat.le_of_ble_eq_true rfl⟩, hw3, trivial⟩ ⟨fun a U g mk q => by obtain ⟨q0, q1, qP, qK, qD, qN⟩ := q; exact ⟨q0, q1, qP, va_K.moved (u := U) (U := U.calling g mk a) (Vm.Alike.refl U.vm) qK, qD, nw_same rfl qN⟩, fun U hU hW => ⟨rfl, by rw [hU], by rw [hU]; exact hPc, va_K.moved hW.alike hK, hDc.weaken (fun _ _ _ _ => trivial), nw_warm hW hN⟩⟩ rfl rfl hl.1 rfl (lv_room (Nat.le_of_ble_eq_true rfl)) dX1_tellOne_28 ⟨Nat.le_of_ble_eq_true rfl, Nat.le_of_ble_eq_true rfl⟩) hS (fun q _ h => hFc q h) hFc (fun r5 u t H1 locs ht9 hvm hw hB hz1 hk1 hS => ?_)
      obtain ⟨hP1, hK1, hD1⟩ := hB
      rw [ht9] at hP1
      try dsimp only at hw
      replace ht := hw
      obtain ⟨hP, hD⟩ := va_join (wr := [(h0, .inr (1, [.int nv, .int na, .ref afbi, .ref afab, .ref afhd, .ref afin, .ref afjo, .ref afnu, .ref afre, .ref afse])), (afjo, .inl (cJ, 60, .inr (.inl (vp_updL fjo p1.toNatClampNeg ((fjo p1.toNatClampNeg) ||| r3))))), (afnu, .inl (cI, 60, .inl fnu)), (afre, .inl (cJ, 60, .inr (.inl fre))), (afse, .inl (cI, 60, .inl fse))]) (w1 := []) hP hD [] [0, 1, 2, 3, 4] rfl rfl (by decide) (by decide) hk1 hFc hP1 hD1
      generalize H1 = H at hP hS ⊢
      replace hP : va_P (dC, dI) vwCl [(h0, .inr (1, [.int nv, .int na, .ref afbi, .ref afab, .ref afhd, .ref afin, .ref afjo, .ref afnu, .ref afre, .ref afse])), (afjo, .inl (cJ, 60, .inr (.inl (vp_updL fjo p1.toNatClampNeg ((fjo p1.toNatClampNeg) ||| r3))))), (afnu, .inl (cI, 60, .inl fnu)), (afre, .inl (cJ, 60, .inr (.inl fre))), (afse, .inl (cI, 60, .inl fse))] H := hP
      replace hD : va_D A [(h0, .inr (1, [.int nv, .int na, .ref afbi, .ref afab, .ref afhd, .ref afin, .ref afjo, .ref afnu, .ref afre, .ref afse])), (afjo, .inl (cJ, 60, .inr (.inl (vp_updL fjo p1.toNatClampNeg ((fjo p1.toNatClampNeg) ||| r3))))), (afnu, .inl (cI, 60, .inl fnu)), (afre, .inl (cJ, 60, .inr (.inl fre))), (afse, .inl (cI, 60, .inl fse))] := hD
      refine lv_lor hx hb dX1_tellOne_31 ?_
      refine va_last hx hb hK hP hD hS 1 1 rfl rfl i4 dX1_tellOne_32 (fun H locs hP hD hS => ?_)
      replace hP : va_P (dC, dI) vwCl [(h0, .inr (1, [.int nv, .int na, .ref afbi, .ref afab, .ref afhd, .ref afin, .ref afjo, .ref afnu, .ref afre, .ref afse])), (afjo, .inl (cJ, 60, .inr (.inl (vp_updL (vp_updL fjo p1.toNatClampNeg ((fjo p1.toNatClampNeg) ||| r3)) p2.toNatClampNeg (((vp_updL fjo p1.toNatClampNeg ((fjo p1.toNatClampNeg) ||| r3)) p2.toNatClampNeg) ||| r5))))), (afnu, .inl (cI, 60, .inl fnu)), (afre, .inl (cJ, 60, .inr (.inl fre))), (afse, .inl (cI, 60, .inl fse))] H := hP
      replace hD : va_D A [(h0, .inr (1, [.int nv, .int na, .ref afbi, .ref afab, .ref afhd, .ref afin, .ref afjo, .ref afnu, .ref afre, .ref afse])), (afjo, .inl (cJ, 60, .inr (.inl (vp_updL (vp_updL fjo p1.toNatClampNeg ((fjo p1.toNatClampNeg) ||| r3)) p2.toNatClampNeg (((vp_updL fjo p1.toNatClampNeg ((fjo p1.toNatClampNeg) ||| r3)) p2.toNatClampNeg) ||| r5))))), (afnu, .inl (cI, 60, .inl fnu)), (afre, .inl (cJ, 60, .inr (.inl fre))), (afse, .inl (cI, 60, .inl fse))] := hD
      refine lv_aload_n hx hb dX1_tellOne_33 rfl (lv_at hl 0 rfl) ?_
      refine lv_aload_n hx hb dX1_tellOne_34 rfl (lv_at hl 0 rfl) ?_
      refine va_get (D := (dC, dI)) (ci := 1) (v := .ref afnu) (C := RX1) (T := TX1) (N := 10) hx hb hts hw0 hown hK hP 0 rfl rfl 7 (by decide) hw4 (fun _ h9 => h9) rfl dX1_tellOne_35 ?_
      refine lv_iload_n hx hb dX1_tellOne_38 rfl (lv_at hl 1 rfl) ?_
      refine va_iald hx hb hK hP 2 0 rfl rfl i2 dX1_tellOne_39 ?_
      refine lv_aload_n hx hb dX1_tellOne_40 rfl (lv_at hl 0 rfl) ?_
      refine va_get (D := (dC, dI)) (ci := 1) (v := .ref afnu) (C := RX1) (T := TX1) (N := 10) hx hb hts hw0 hown hK hP 0 rfl rfl 7 (by decide) hw4 (fun _ h9 => h9) rfl dX1_tellOne_41 ?_
      refine lv_iload_n hx hb dX1_tellOne_44 rfl (lv_at hl 2 rfl) ?_
      refine va_iald hx hb hK hP 2 0 rfl rfl i4 dX1_tellOne_45 ?_
      have hPc := hP.sub (ws' := [(h0, .inr (1, [.int nv, .int na, .ref afbi, .ref afab, .ref afhd, .ref afin, .ref afjo, .ref afnu, .ref afre, .ref afse])), (afnu, .inl (cI, 60, .inl fnu))]) [0, 2] rfl
      have hDc := hD.sub (ws' := [(h0, .inr (1, [.int nv, .int na, .ref afbi, .ref afab, .ref afhd, .ref afin, .ref afjo, .ref afnu, .ref afre, .ref afse])), (afnu, .inl (cI, 60, .inl fnu))]) [0, 2] (by decide) rfl
      have hFc := va_free (wc := [(h0, .inr (1, [.int nv, .int na, .ref afbi, .ref afab, .ref afhd, .ref afin, .ref afjo, .ref afnu, .ref afre, .ref afse])), (afnu, .inl (cI, 60, .inl fnu))]) hD hS hA [0, 2] rfl
      refine va_callv (va_runV (As := [.int (fnu p1.toNatClampNeg), .int (fnu p2.toNatClampNeg)]) (rest := []) ⟨hx, hb, hml, hown, hts⟩ (c_X1_mergeNodes l dC dI cI cJ h0 afbi afab afhd afin afjo afnu afre afse nv na fnu H.size (fnu p1.toNatClampNeg) (fnu p2.toNatClampNeg) _ ht) (cwV 2 hts gX1_tellOne_X1_mergeNodes rfl rfl rfl (by decide +kernel) ⟨Nat.le_of_ble_eq_true rfl, Nat.le_of_ble_eq_true rfl⟩) ⟨fun a U g mk q => by obtain ⟨q0, q1, qP, qK, qD, qN⟩ := q; exact ⟨q0, q1, qP, va_K.moved (u := U) (U := U.calling g mk a) (Vm.Alike.refl U.vm) qK, qD, nw_same rfl qN⟩, va_recv hK hP (ci := 1) (q0 := 0) rfl rfl, fun U hU hW => ⟨rfl, by rw [hU], by rw [hU]; exact hPc, va_K.moved hW.alike hK, hDc.weaken (fun _ _ _ _ => trivial), nw_warm hW hN⟩⟩ rfl rfl hl.1 rfl (lv_room (Nat.le_of_ble_eq_true rfl)) dX1_tellOne_46 ⟨Nat.le_of_ble_eq_true rfl, Nat.le_of_ble_eq_true rfl⟩) hS (fun q _ h => hFc q h) hFc (fun u t H1 locs ht9 hvm hw hB hz1 hk1 hS => ?_)
      obtain ⟨fnu_7, rfl⟩ : ∃ z, z = u := ⟨_, rfl⟩
      obtain ⟨hP1, hK1, hD1⟩ := hB
      rw [ht9] at hP1
      try dsimp only at hw
      replace ht := hw
      obtain ⟨hP, hD⟩ := va_join (wr := [(afjo, .inl (cJ, 60, .inr (.inl (vp_updL (vp_updL fjo p1.toNatClampNeg ((fjo p1.toNatClampNeg) ||| r3)) p2.toNatClampNeg (((vp_updL fjo p1.toNatClampNeg ((fjo p1.toNatClampNeg) ||| r3)) p2.toNatClampNeg) ||| r5))))), (afre, .inl (cJ, 60, .inr (.inl fre))), (afse, .inl (cI, 60, .inl fse))]) (w1 := [(h0, .inr (1, [.int nv, .int na, .ref afbi, .ref afab, .ref afhd, .ref afin, .ref afjo, .ref afnu, .ref afre, .ref afse])), (afnu, .inl (cI, 60, .inl fnu_7))]) hP hD [0, 2] [1, 3, 4] rfl rfl (by decide) (by decide) hk1 hFc hP1 hD1
      generalize H1 = H at hP hS ⊢
      replace hP : va_P (dC, dI) vwCl [(afjo, .inl (cJ, 60, .inr (.inl (vp_updL (vp_updL fjo p1.toNatClampNeg ((fjo p1.toNatClampNeg) ||| r3)) p2.toNatClampNeg (((vp_updL fjo p1.toNatClampNeg ((fjo p1.toNatClampNeg) ||| r3)) p2.toNatClampNeg) ||| r5))))), (afre, .inl (cJ, 60, .inr (.inl fre))), (afse, .inl (cI, 60, .inl fse)), (h0, .inr (1, [.int nv, .int na, .ref afbi, .ref afab, .ref afhd, .ref afin, .ref afjo, .ref afnu, .ref afre, .ref afse])), (afnu, .inl (cI, 60, .inl fnu_7))] H := hP
      replace hD : va_D A [(afjo, .inl (cJ, 60, .inr (.inl (vp_updL (vp_updL fjo p1.toNatClampNeg ((fjo p1.toNatClampNeg) ||| r3)) p2.toNatClampNeg (((vp_updL fjo p1.toNatClampNeg ((fjo p1.toNatClampNeg) ||| r3)) p2.toNatClampNeg) ||| r5))))), (afre, .inl (cJ, 60, .inr (.inl fre))), (afse, .inl (cI, 60, .inl fse)), (h0, .inr (1, [.int nv, .int na, .ref afbi, .ref afab, .ref afhd, .ref afin, .ref afjo, .ref afnu, .ref afre, .ref afse])), (afnu, .inl (cI, 60, .inl fnu_7))] := hD
      refine lv_aload_n hx hb dX1_tellOne_49 rfl (lv_at hl 0 rfl) ?_
      refine lv_iload_n hx hb dX1_tellOne_50 rfl (lv_at hl 1 rfl) ?_
      refine lv_iload_n hx hb dX1_tellOne_51 rfl (lv_at hl 2 rfl) ?_
      have hPc := hP.sub (ws' := [(h0, .inr (1, [.int nv, .int na, .ref afbi, .ref afab, .ref afhd, .ref afin, .ref afjo, .ref afnu, .ref afre, .ref afse])), (afre, .inl (cJ, 60, .inr (.inl fre))), (afse, .inl (cI, 60, .inl fse))]) [3, 1, 2] rfl
      have hDc := hD.sub (ws' := [(h0, .inr (1, [.int nv, .int na, .ref afbi, .ref afab, .ref afhd, .ref afin, .ref afjo, .ref afnu, .ref afre, .ref afse])), (afre, .inl (cJ, 60, .inr (.inl fre))), (afse, .inl (cI, 60, .inl fse))]) [3, 1, 2] (by decide) rfl
      have hFc := va_free (wc := [(h0, .inr (1, [.int nv, .int na, .ref afbi, .ref afab, .ref afhd, .ref afin, .ref afjo, .ref afnu, .ref afre, .ref afse])), (afre, .inl (cJ, 60, .inr (.inl fre))), (afse, .inl (cI, 60, .inl fse))]) hD hS hA [3, 1, 2] rfl
      refine va_calli (va_runV (As := [.int p1, .int p2]) (rest := []) ⟨hx, hb, hml, hown, hts⟩ (c_X1_link l dC dI cI cJ h0 afbi afab afhd afin afjo afnu afre afse nv na fre fse H.size p1 p2 _ ht) (cwV 2 hts gX1_tellOne_X1_link rfl rfl rfl (by decide +kernel) ⟨Nat.le_of_ble_eq_true rfl, Nat.le_of_ble_eq_true rfl⟩) ⟨fun a U g mk q => by obtain ⟨q0, q1, qP, qK, qD, qN⟩ := q; exact ⟨q0, q1, qP, va_K.moved (u := U) (U := U.calling g mk a) (Vm.Alike.refl U.vm) qK, qD, nw_same rfl qN⟩, va_recv hK hP (ci := 1) (q0 := 3) rfl rfl, fun U hU hW => ⟨rfl, by rw [hU], by rw [hU]; exact hPc, va_K.moved hW.alike hK, hDc.weaken (fun _ _ _ _ => trivial), nw_warm hW hN⟩⟩ rfl rfl hl.1 rfl (lv_room (Nat.le_of_ble_eq_true rfl)) dX1_tellOne_52 ⟨Nat.le_of_ble_eq_true rfl, Nat.le_of_ble_eq_true rfl⟩) hS (fun q _ h => hFc q h) hFc (fun r8 u t H1 locs ht9 hvm hw hB hz1 hk1 hS => ?_)
      obtain ⟨fre_9, fse_10⟩ := u
      obtain ⟨hP1, hK1, hD1⟩ := hB
      rw [ht9] at hP1
      try dsimp only at hw
      replace ht := hw
      obtain ⟨hP, hD⟩ := va_join (wr := [(afjo, .inl (cJ, 60, .inr (.inl (vp_updL (vp_updL fjo p1.toNatClampNeg ((fjo p1.toNatClampNeg) ||| r3)) p2.toNatClampNeg (((vp_updL fjo p1.toNatClampNeg ((fjo p1.toNatClampNeg) ||| r3)) p2.toNatClampNeg) ||| r5))))), (afnu, .inl (cI, 60, .inl fnu_7))]) (w1 := [(h0, .inr (1, [.int nv, .int na, .ref afbi, .ref afab, .ref afhd, .ref afin, .ref afjo, .ref afnu, .ref afre, .ref afse])), (afre, .inl (cJ, 60, .inr (.inl fre_9))), (afse, .inl (cI, 60, .inl fse_10))]) hP hD [3, 1, 2] [0, 4] rfl rfl (by decide) (by decide) hk1 hFc hP1 hD1
      generalize H1 = H at hP hS ⊢
      replace hP : va_P (dC, dI) vwCl [(afjo, .inl (cJ, 60, .inr (.inl (vp_updL (vp_updL fjo p1.toNatClampNeg ((fjo p1.toNatClampNeg) ||| r3)) p2.toNatClampNeg (((vp_updL fjo p1.toNatClampNeg ((fjo p1.toNatClampNeg) ||| r3)) p2.toNatClampNeg) ||| r5))))), (afnu, .inl (cI, 60, .inl fnu_7)), (h0, .inr (1, [.int nv, .int na, .ref afbi, .ref afab, .ref afhd, .ref afin, .ref afjo, .ref afnu, .ref afre, .ref afse])), (afre, .inl (cJ, 60, .inr (.inl fre_9))), (afse, .inl (cI, 60, .inl fse_10))] H := hP
      replace hD : va_D A [(afjo, .inl (cJ, 60, .inr (.inl (vp_updL (vp_updL fjo p1.toNatClampNeg ((fjo p1.toNatClampNeg) ||| r3)) p2.toNatClampNeg (((vp_updL fjo p1.toNatClampNeg ((fjo p1.toNatClampNeg) ||| r3)) p2.toNatClampNeg) ||| r5))))), (afnu, .inl (cI, 60, .inl fnu_7)), (h0, .inr (1, [.int nv, .int na, .ref afbi, .ref afab, .ref afhd, .ref afin, .ref afjo, .ref afnu, .ref afre, .ref afse])), (afre, .inl (cJ, 60, .inr (.inl fre_9))), (afse, .inl (cI, 60, .inl fse_10))] := hD
      refine lv_aload_n hx hb dX1_tellOne_55 rfl (lv_at hl 0 rfl) ?_
      refine lv_iload_n hx hb dX1_tellOne_56 rfl (lv_at hl 2 rfl) ?_
      refine lv_iload_n hx hb dX1_tellOne_57 rfl (lv_at hl 1 rfl) ?_
      have hPc := hP.sub (ws' := [(h0, .inr (1, [.int nv, .int na, .ref afbi, .ref afab, .ref afhd, .ref afin, .ref afjo, .ref afnu, .ref afre, .ref afse])), (afre, .inl (cJ, 60, .inr (.inl fre_9))), (afse, .inl (cI, 60, .inl fse_10))]) [2, 3, 4] rfl
      have hDc := hD.sub (ws' := [(h0, .inr (1, [.int nv, .int na, .ref afbi, .ref afab, .ref afhd, .ref afin, .ref afjo, .ref afnu, .ref afre, .ref afse])), (afre, .inl (cJ, 60, .inr (.inl fre_9))), (afse, .inl (cI, 60, .inl fse_10))]) [2, 3, 4] (by decide) rfl
      have hFc := va_free (wc := [(h0, .inr (1, [.int nv, .int na, .ref afbi, .ref afab, .ref afhd, .ref afin, .ref afjo, .ref afnu, .ref afre, .ref afse])), (afre, .inl (cJ, 60, .inr (.inl fre_9))), (afse, .inl (cI, 60, .inl fse_10))]) hD hS hA [2, 3, 4] rfl
      refine va_calli (va_runV (As := [.int p2, .int p1]) (rest := [.int r8]) ⟨hx, hb, hml, hown, hts⟩ (c_X1_link l dC dI cI cJ h0 afbi afab afhd afin afjo afnu afre afse nv na fre_9 fse_10 H.size p2 p1 _ ht) (cwV 2 hts gX1_tellOne_X1_link rfl rfl rfl (by decide +kernel) ⟨Nat.le_of_ble_eq_true rfl, Nat.le_of_ble_eq_true rfl⟩) ⟨fun a U g mk q => by obtain ⟨q0, q1, qP, qK, qD, qN⟩ := q; exact ⟨q0, q1, qP, va_K.moved (u := U) (U := U.calling g mk a) (Vm.Alike.refl U.vm) qK, qD, nw_same rfl qN⟩, va_recv hK hP (ci := 1) (q0 := 2) rfl rfl, fun U hU hW => ⟨rfl, by rw [hU], by rw [hU]; exact hPc, va_K.moved hW.alike hK, hDc.weaken (fun _ _ _ _ => trivial), nw_warm hW hN⟩⟩ rfl rfl hl.1 rfl (lv_room (Nat.le_of_ble_eq_true rfl)) dX1_tellOne_58 ⟨Nat.le_of_ble_eq_true rfl, Nat.le_of_ble_eq_true rfl⟩) hS (fun q _ h => hFc q h) hFc (fun r11 u t H1 locs ht9 hvm hw hB hz1 hk1 hS => ?_)
      obtain ⟨fre_12, fse_13⟩ := u
      obtain ⟨hP1, hK1, hD1⟩ := hB
      rw [ht9] at hP1
      try dsimp only at hw
      replace ht := hw
      obtain ⟨hP, hD⟩ := va_join (wr := [(afjo, .inl (cJ, 60, .inr (.inl (vp_updL (vp_updL fjo p1.toNatClampNeg ((fjo p1.toNatClampNeg) ||| r3)) p2.toNatClampNeg (((vp_updL fjo p1.toNatClampNeg ((fjo p1.toNatClampNeg) ||| r3)) p2.toNatClampNeg) ||| r5))))), (afnu, .inl (cI, 60, .inl fnu_7))]) (w1 := [(h0, .inr (1, [.int nv, .int na, .ref afbi, .ref afab, .ref afhd, .ref afin, .ref afjo, .ref afnu, .ref afre, .ref afse])), (afre, .inl (cJ, 60, .inr (.inl fre_12))), (afse, .inl (cI, 60, .inl fse_13))]) hP hD [2, 3, 4] [0, 1] rfl rfl (by decide) (by decide) hk1 hFc hP1 hD1
      generalize H1 = H at hP hS ⊢
      replace hP : va_P (dC, dI) vwCl [(afjo, .inl (cJ, 60, .inr (.inl (vp_updL (vp_updL fjo p1.toNatClampNeg ((fjo p1.toNatClampNeg) ||| r3)) p2.toNatClampNeg (((vp_updL fjo p1.toNatClampNeg ((fjo p1.toNatClampNeg) ||| r3)) p2.toNatClampNeg) ||| r5))))), (afnu, .inl (cI, 60, .inl fnu_7)), (h0, .inr (1, [.int nv, .int na, .ref afbi, .ref afab, .ref afhd, .ref afin, .ref afjo, .ref afnu, .ref afre, .ref afse])), (afre, .inl (cJ, 60, .inr (.inl fre_12))), (afse, .inl (cI, 60, .inl fse_13))] H := hP
      replace hD : va_D A [(afjo, .inl (cJ, 60, .inr (.inl (vp_updL (vp_updL fjo p1.toNatClampNeg ((fjo p1.toNatClampNeg) ||| r3)) p2.toNatClampNeg (((vp_updL fjo p1.toNatClampNeg ((fjo p1.toNatClampNeg) ||| r3)) p2.toNatClampNeg) ||| r5))))), (afnu, .inl (cI, 60, .inl fnu_7)), (h0, .inr (1, [.int nv, .int na, .ref afbi, .ref afab, .ref afhd, .ref afin, .ref afjo, .ref afnu, .ref afre, .ref afse])), (afre, .inl (cJ, 60, .inr (.inl fre_12))), (afse, .inl (cI, 60, .inl fse_13))] := hD
      refine lv_iadd hx hb dX1_tellOne_61 ?_
      have hP9 : va_P (dC, dI) vwCl [(h0, .inr (1, [.int nv, .int na, .ref afbi, .ref afab, .ref afhd, .ref afin, .ref afjo, .ref afnu, .ref afre, .ref afse])), (afjo, .inl (cJ, 60, .inr (.inl (vp_updL (vp_updL fjo p1.toNatClampNeg ((fjo p1.toNatClampNeg) ||| r3)) p2.toNatClampNeg (((vp_updL fjo p1.toNatClampNeg ((fjo p1.toNatClampNeg) ||| r3)) p2.toNatClampNeg) ||| r5))))), (afnu, .inl (cI, 60, .inl fnu_7)), (afre, .inl (cJ, 60, .inr (.inl fre_12))), (afse, .inl (cI, 60, .inl fse_13))] _ := (hP.sub [2, 0, 1, 3, 4] rfl)
      have hD9 : va_D A [(h0, .inr (1, [.int nv, .int na, .ref afbi, .ref afab, .ref afhd, .ref afin, .ref afjo, .ref afnu, .ref afre, .ref afse])), (afjo, .inl (cJ, 60, .inr (.inl (vp_updL (vp_updL fjo p1.toNatClampNeg ((fjo p1.toNatClampNeg) ||| r3)) p2.toNatClampNeg (((vp_updL fjo p1.toNatClampNeg ((fjo p1.toNatClampNeg) ||| r3)) p2.toNatClampNeg) ||| r5))))), (afnu, .inl (cI, 60, .inl fnu_7)), (afre, .inl (cJ, 60, .inr (.inl fre_12))), (afse, .inl (cI, 60, .inl fse_13))] := (hD.sub [2, 0, 1, 3, 4] (by decide) rfl)
      exact W.iret (v := (r8 + r11)) hx hb hr (fun t ht9 hW => ⟨⟨(r8 + r11), ((vp_updL (vp_updL fjo p1.toNatClampNeg ((fjo p1.toNatClampNeg) ||| r3)) p2.toNatClampNeg (((vp_updL fjo p1.toNatClampNeg ((fjo p1.toNatClampNeg) ||| r3)) p2.toNatClampNeg) ||| r5)), fnu_7, fre_12, fse_13), rfl, ht, by rw [ht9]; exact hP9, va_K.moved hW.alike hK, hD9⟩, hS.F ht9⟩) hS.2.2 dX1_tellOne_62
    · replace ht := ht.2 c1
      refine lv_iconst (v := 0) hx hb dX1_tellOne_5 (by decide) ?_
      have hP9 : va_P (dC, dI) vwCl [(h0, .inr (1, [.int nv, .int na, .ref afbi, .ref afab, .ref afhd, .ref afin, .ref afjo, .ref afnu, .ref afre, .ref afse])), (afjo, .inl (cJ, 60, .inr (.inl fjo))), (afnu, .inl (cI, 60, .inl fnu)), (afre, .inl (cJ, 60, .inr (.inl fre))), (afse, .inl (cI, 60, .inl fse))] _ := hP
      have hD9 : va_D A [(h0, .inr (1, [.int nv, .int na, .ref afbi, .ref afab, .ref afhd, .ref afin, .ref afjo, .ref afnu, .ref afre, .ref afse])), (afjo, .inl (cJ, 60, .inr (.inl fjo))), (afnu, .inl (cI, 60, .inl fnu)), (afre, .inl (cJ, 60, .inr (.inl fre))), (afse, .inl (cI, 60, .inl fse))] := hD
      exact W.iret (v := 0) hx hb hr (fun t ht9 hW => ⟨⟨0, (fjo, fnu, fre, fse), rfl, ht, by rw [ht9]; exact hP9, va_K.moved hW.alike hK, hD9⟩, hS.F ht9⟩) hS.2.2 dX1_tellOne_6
set_option maxHeartbeats 4000000 in
set_option maxRecDepth 100000 in
theorem c_X1_inOneRing (l : Launch) (dC : Nat → ClassId) (dI : Nat → Nat → Nat) (cI cJ : ClassId) (h0 : Nat) (afbi : Nat) (afab : Nat) (afhd : Nat) (afin : Nat) (afjo : Nat) (afnu : Nat) (afre : Nat) (afse : Nat) (nv : Int32) (na : Int32) (fre : Nat → Int64) (sz : Nat) (p1 : Int32) (p2 : Int32) (post : Int32 → Prop) (hsp : S_X1_inOneRing p1 p2 fre post) : Met l yX1_inOneRing wsX1_inOneRing ({ frames := 1, cells := 0, slots := 0, locals := 22 }) (va_Pc [.ref h0, .int p1, .int p2] (fun U => U.heap.size = sz ∧ va_P (dC, dI) vwCl [(h0, .inr (1, [.int nv, .int na, .ref afbi, .ref afab, .ref afhd, .ref afin, .ref afjo, .ref afnu, .ref afre, .ref afse])), (afre, .inl (cJ, 60, .inr (.inl fre)))] U.heap ∧ va_K (dC, dI) vwCl [(cI, .int), (cJ, .long)] U ∧ va_D (fun _ => True) [(h0, .inr (1, [.int nv, .int na, .ref afbi, .ref afab, .ref afhd, .ref afin, .ref afjo, .ref afnu, .ref afre, .ref afse])), (afre, .inl (cJ, 60, .inr (.inl fre)))] ∧ nw U)) (va_Qi (fun (r : Int32) (u : Unit) => post r) (fun (u : Unit) (t : State) => va_P (dC, dI) vwCl [(h0, .inr (1, [.int nv, .int na, .ref afbi, .ref afab, .ref afhd, .ref afin, .ref afjo, .ref afnu, .ref afre, .ref afse])), (afre, .inl (cJ, 60, .inr (.inl fre)))] t.heap ∧ va_K (dC, dI) vwCl [(cI, .int), (cJ, .long)] t ∧ va_D (va_A [(h0, .inr (1, [.int nv, .int na, .ref afbi, .ref afab, .ref afhd, .ref afin, .ref afjo, .ref afnu, .ref afre, .ref afse])), (afre, .inl (cJ, 60, .inr (.inl fre)))] sz) [(h0, .inr (1, [.int nv, .int na, .ref afbi, .ref afab, .ref afhd, .ref afin, .ref afjo, .ref afnu, .ref afre, .ref afse])), (afre, .inl (cJ, 60, .inr (.inl fre)))]) (va_A [(h0, .inr (1, [.int nv, .int na, .ref afbi, .ref afab, .ref afhd, .ref afin, .ref afjo, .ref afnu, .ref afre, .ref afse])), (afre, .inl (cJ, 60, .inr (.inl fre)))] sz)) 0 0 (va_A [(h0, .inr (1, [.int nv, .int na, .ref afbi, .ref afab, .ref afhd, .ref afin, .ref afjo, .ref afnu, .ref afre, .ref afse])), (afre, .inl (cJ, 60, .inr (.inl fre)))] sz) := by
  refine Met.ofW (cc := cX1_inOneRing) (maxL := 3) (ret := (some .boolean)) (by decide) rfl ?_
  intro p e s m args below meth c s₁ B hml hv
  obtain ⟨rfl, hsz, hP, hK, hD0, hN⟩ := hv
  have hx := B.exec
  have hb := B.bytes
  have hr := B.returns
  have hts := atoms_spec (ws := wsX1_inOneRing) B.pre
  have hown : s.vm.findClass RX1 = some m.cls := findClass_of_methodNamed B.named
  have hlocks := B.notSynchronized
  subst hsz
  have hD := hD0.self (sz := s.heap.size)
  generalize hAe : va_A [(h0, .inr (1, [.int nv, .int na, .ref afbi, .ref afab, .ref afhd, .ref afin, .ref afjo, .ref afnu, .ref afre, .ref afse])), (afre, .inl (cJ, 60, .inr (.inl fre)))] s.heap.size = A at hD ⊢
  have hA : ∀ q : Nat, s.heap.size ≤ q → A q := fun q h => by rw [← hAe]; exact Or.inr h
  have hS : va_S A s.heap s.heap [] := va_S.rf
  have hl := lv_entry ([.ref h0, .int p1, .int p2]) (n := 3) (Nat.le_of_ble_eq_true rfl)
  rw [lg_entry_eq]
  generalize (lg_sl ([.ref h0, .int p1, .int p2]) ++ List.replicate (3 - (lg_sl ([.ref h0, .int p1, .int p2])).length) Slot.unset).toArray = ls at hl ⊢
  replace hl : lv_has ls 3 [(0, .ref h0), (1, .int p1), (2, .int p2)] := hl
  have hw0 := (show ∀ w ∈ wsX10, w ∈ wsX1_inOneRing from by decide +kernel)
  have hw1 := hts (.fieldLink RX1 38 "EffectNets$Net" "reached" "[J") (by decide +kernel)
  have hw2 := hts (.initialized RX3) (by decide +kernel)
  have hw3 := hts (.static yX3_contains) (by decide +kernel)
  refine hsp _ ?_
  · intro ht
    refine lv_aload_n hx hb dX1_inOneRing_0 rfl (lv_at hl 0 rfl) ?_
    refine va_get (D := (dC, dI)) (ci := 1) (v := .ref afre) (C := RX1) (T := TX1) (N := 10) hx hb hts hw0 hown hK hP 0 rfl rfl 8 (by decide) hw1 (fun _ h9 => h9) rfl dX1_inOneRing_1 ?_
    refine lv_iload_n hx hb dX1_inOneRing_4 rfl (lv_at hl 1 rfl) ?_
    obtain ⟨i1, ht⟩ := ht
    refine va_lald hx hb hK hP 1 1 rfl rfl i1 dX1_inOneRing_5 ?_
    refine lv_iload_n hx hb dX1_inOneRing_6 rfl (lv_at hl 2 rfl) ?_
    have hPc := hP.sub (ws' := []) [] rfl
    have hDc := hD.sub (ws' := []) [] (by decide) rfl
    have hFc := va_free (wc := []) hD hS hA [] rfl
    refine va_calli (va_runSN (As := [.long (fre p1.toNatClampNeg), .int p2]) (rest := []) ⟨hx, hb, hml, hown, hts⟩ (c_X3_contains l dC dI cI cJ  s.heap.size (fre p1.toNatClampNeg) p2 _ ht) ⟨va_cnB 2 hts gX1_inOneRing_X3_contains_n71 rfl rfl rfl hN.2.2.2.2.1 hw2 (by decide +kernel) ⟨Nat.le_of_ble_eq_true rfl, Nat.le_of_ble_eq_true rfl⟩, hw3, trivial⟩ ⟨fun a U g mk q => by obtain ⟨q0, q1, qP, qK, qD, qN⟩ := q; exact ⟨q0, q1, qP, va_K.moved (u := U) (U := U.calling g mk a) (Vm.Alike.refl U.vm) qK, qD, nw_same rfl qN⟩, fun U hU hW => ⟨rfl, by rw [hU], by rw [hU]; exact hPc, va_K.moved hW.alike hK, hDc.weaken (fun _ _ _ _ => trivial), nw_warm hW hN⟩⟩ rfl rfl hl.1 rfl (lv_room (Nat.le_of_ble_eq_true rfl)) dX1_inOneRing_7 ⟨Nat.le_of_ble_eq_true rfl, Nat.le_of_ble_eq_true rfl⟩) hS (fun q _ h => hFc q h) hFc (fun r2 u t H1 locs ht9 hvm hw hB hz1 hk1 hS => ?_)
    obtain ⟨hP1, hK1, hD1⟩ := hB
    rw [ht9] at hP1
    try dsimp only at hw
    replace ht := hw
    obtain ⟨hP, hD⟩ := va_join (wr := [(h0, .inr (1, [.int nv, .int na, .ref afbi, .ref afab, .ref afhd, .ref afin, .ref afjo, .ref afnu, .ref afre, .ref afse])), (afre, .inl (cJ, 60, .inr (.inl fre)))]) (w1 := []) hP hD [] [0, 1] rfl rfl (by decide) (by decide) hk1 hFc hP1 hD1
    generalize H1 = H at hP hS ⊢
    replace hP : va_P (dC, dI) vwCl [(h0, .inr (1, [.int nv, .int na, .ref afbi, .ref afab, .ref afhd, .ref afin, .ref afjo, .ref afnu, .ref afre, .ref afse])), (afre, .inl (cJ, 60, .inr (.inl fre)))] H := hP
    replace hD : va_D A [(h0, .inr (1, [.int nv, .int na, .ref afbi, .ref afab, .ref afhd, .ref afin, .ref afjo, .ref afnu, .ref afre, .ref afse])), (afre, .inl (cJ, 60, .inr (.inl fre)))] := hD
    refine lv_if_eq (tgt := 30) hx hb dX1_inOneRing_10 (by decide) (fun c3 => ?_) (fun c3 => ?_)
    · replace ht := ht.1 c3
      refine lv_iconst (v := 0) hx hb dX1_inOneRing_30 (by decide) ?_
      have hP9 : va_P (dC, dI) vwCl [(h0, .inr (1, [.int nv, .int na, .ref afbi, .ref afab, .ref afhd, .ref afin, .ref afjo, .ref afnu, .ref afre, .ref afse])), (afre, .inl (cJ, 60, .inr (.inl fre)))] _ := hP
      have hD9 : va_D A [(h0, .inr (1, [.int nv, .int na, .ref afbi, .ref afab, .ref afhd, .ref afin, .ref afjo, .ref afnu, .ref afre, .ref afse])), (afre, .inl (cJ, 60, .inr (.inl fre)))] := hD
      exact W.zret (v := 0) hx hb hr rfl (fun t ht9 hW => ⟨⟨0, (), rfl, ht, by rw [ht9]; exact hP9, va_K.moved hW.alike hK, hD9⟩, hS.F ht9⟩) hS.2.2 dX1_inOneRing_31
    · replace ht := ht.2 c3
      refine lv_aload_n hx hb dX1_inOneRing_13 rfl (lv_at hl 0 rfl) ?_
      refine va_get (D := (dC, dI)) (ci := 1) (v := .ref afre) (C := RX1) (T := TX1) (N := 10) hx hb hts hw0 hown hK hP 0 rfl rfl 8 (by decide) hw1 (fun _ h9 => h9) rfl dX1_inOneRing_14 ?_
      refine lv_iload_n hx hb dX1_inOneRing_17 rfl (lv_at hl 2 rfl) ?_
      obtain ⟨i4, ht⟩ := ht
      refine va_lald hx hb hK hP 1 1 rfl rfl i4 dX1_inOneRing_18 ?_
      refine lv_iload_n hx hb dX1_inOneRing_19 rfl (lv_at hl 1 rfl) ?_
      have hPc := hP.sub (ws' := []) [] rfl
      have hDc := hD.sub (ws' := []) [] (by decide) rfl
      have hFc := va_free (wc := []) hD hS hA [] rfl
      refine va_calli (va_runSN (As := [.long (fre p2.toNatClampNeg), .int p1]) (rest := []) ⟨hx, hb, hml, hown, hts⟩ (c_X3_contains l dC dI cI cJ  H.size (fre p2.toNatClampNeg) p1 _ ht) ⟨va_cnB 2 hts gX1_inOneRing_X3_contains_n71 rfl rfl rfl hN.2.2.2.2.1 hw2 (by decide +kernel) ⟨Nat.le_of_ble_eq_true rfl, Nat.le_of_ble_eq_true rfl⟩, hw3, trivial⟩ ⟨fun a U g mk q => by obtain ⟨q0, q1, qP, qK, qD, qN⟩ := q; exact ⟨q0, q1, qP, va_K.moved (u := U) (U := U.calling g mk a) (Vm.Alike.refl U.vm) qK, qD, nw_same rfl qN⟩, fun U hU hW => ⟨rfl, by rw [hU], by rw [hU]; exact hPc, va_K.moved hW.alike hK, hDc.weaken (fun _ _ _ _ => trivial), nw_warm hW hN⟩⟩ rfl rfl hl.1 rfl (lv_room (Nat.le_of_ble_eq_true rfl)) dX1_inOneRing_20 ⟨Nat.le_of_ble_eq_true rfl, Nat.le_of_ble_eq_true rfl⟩) hS (fun q _ h => hFc q h) hFc (fun r5 u t H1 locs ht9 hvm hw hB hz1 hk1 hS => ?_)
      obtain ⟨hP1, hK1, hD1⟩ := hB
      rw [ht9] at hP1
      try dsimp only at hw
      replace ht := hw
      obtain ⟨hP, hD⟩ := va_join (wr := [(h0, .inr (1, [.int nv, .int na, .ref afbi, .ref afab, .ref afhd, .ref afin, .ref afjo, .ref afnu, .ref afre, .ref afse])), (afre, .inl (cJ, 60, .inr (.inl fre)))]) (w1 := []) hP hD [] [0, 1] rfl rfl (by decide) (by decide) hk1 hFc hP1 hD1
      generalize H1 = H at hP hS ⊢
      replace hP : va_P (dC, dI) vwCl [(h0, .inr (1, [.int nv, .int na, .ref afbi, .ref afab, .ref afhd, .ref afin, .ref afjo, .ref afnu, .ref afre, .ref afse])), (afre, .inl (cJ, 60, .inr (.inl fre)))] H := hP
      replace hD : va_D A [(h0, .inr (1, [.int nv, .int na, .ref afbi, .ref afab, .ref afhd, .ref afin, .ref afjo, .ref afnu, .ref afre, .ref afse])), (afre, .inl (cJ, 60, .inr (.inl fre)))] := hD
      refine lv_if_eq (tgt := 30) hx hb dX1_inOneRing_23 (by decide) (fun c6 => ?_) (fun c6 => ?_)
      · replace ht := ht.1 c6
        refine lv_iconst (v := 0) hx hb dX1_inOneRing_30 (by decide) ?_
        have hP9 : va_P (dC, dI) vwCl [(h0, .inr (1, [.int nv, .int na, .ref afbi, .ref afab, .ref afhd, .ref afin, .ref afjo, .ref afnu, .ref afre, .ref afse])), (afre, .inl (cJ, 60, .inr (.inl fre)))] _ := hP
        have hD9 : va_D A [(h0, .inr (1, [.int nv, .int na, .ref afbi, .ref afab, .ref afhd, .ref afin, .ref afjo, .ref afnu, .ref afre, .ref afse])), (afre, .inl (cJ, 60, .inr (.inl fre)))] := hD
        exact W.zret (v := 0) hx hb hr rfl (fun t ht9 hW => ⟨⟨0, (), rfl, ht, by rw [ht9]; exact hP9, va_K.moved hW.alike hK, hD9⟩, hS.F ht9⟩) hS.2.2 dX1_inOneRing_31
      · replace ht := ht.2 c6
        refine lv_iconst (v := 1) hx hb dX1_inOneRing_26 (by decide) ?_
        refine lv_goto (tgt := 31) hx hb dX1_inOneRing_27 (by decide) ?_
        have hP9 : va_P (dC, dI) vwCl [(h0, .inr (1, [.int nv, .int na, .ref afbi, .ref afab, .ref afhd, .ref afin, .ref afjo, .ref afnu, .ref afre, .ref afse])), (afre, .inl (cJ, 60, .inr (.inl fre)))] _ := hP
        have hD9 : va_D A [(h0, .inr (1, [.int nv, .int na, .ref afbi, .ref afab, .ref afhd, .ref afin, .ref afjo, .ref afnu, .ref afre, .ref afse])), (afre, .inl (cJ, 60, .inr (.inl fre)))] := hD
        exact W.zret (v := 1) hx hb hr rfl (fun t ht9 hW => ⟨⟨1, (), rfl, ht, by rw [ht9]; exact hP9, va_K.moved hW.alike hK, hD9⟩, hS.F ht9⟩) hS.2.2 dX1_inOneRing_31
set_option maxHeartbeats 4000000 in
set_option maxRecDepth 100000 in
theorem c_X1_joinRingOf (l : Launch) (dC : Nat → ClassId) (dI : Nat → Nat → Nat) (cI cJ : ClassId) (h0 : Nat) (afbi : Nat) (afab : Nat) (afhd : Nat) (afin : Nat) (afjo : Nat) (afnu : Nat) (afre : Nat) (afse : Nat) (nv : Int32) (na : Int32) (fjo : Nat → Int64) (fnu : Nat → Int32) (fre : Nat → Int64) (fse : Nat → Int32) (sz : Nat) (p1 : Int32) (post : Int32 → (Nat → Int64) → (Nat → Int32) → (Nat → Int64) → (Nat → Int32) → Prop) (hsp : S_X1_joinRingOf p1 nv fjo fnu fre fse post) : Met l yX1_joinRingOf wsX1_joinRingOf ({ frames := 4, cells := 0, slots := 0, locals := 92 }) (va_Pc [.ref h0, .int p1] (fun U => U.heap.size = sz ∧ va_P (dC, dI) vwCl [(h0, .inr (1, [.int nv, .int na, .ref afbi, .ref afab, .ref afhd, .ref afin, .ref afjo, .ref afnu, .ref afre, .ref afse])), (afjo, .inl (cJ, 60, .inr (.inl fjo))), (afnu, .inl (cI, 60, .inl fnu)), (afre, .inl (cJ, 60, .inr (.inl fre))), (afse, .inl (cI, 60, .inl fse))] U.heap ∧ va_K (dC, dI) vwCl [(cI, .int), (cJ, .long)] U ∧ va_D (fun _ => True) [(h0, .inr (1, [.int nv, .int na, .ref afbi, .ref afab, .ref afhd, .ref afin, .ref afjo, .ref afnu, .ref afre, .ref afse])), (afjo, .inl (cJ, 60, .inr (.inl fjo))), (afnu, .inl (cI, 60, .inl fnu)), (afre, .inl (cJ, 60, .inr (.inl fre))), (afse, .inl (cI, 60, .inl fse))] ∧ nw U)) (va_Qi (fun (r : Int32) (u : (Nat → Int64) × (Nat → Int32) × (Nat → Int64) × (Nat → Int32)) => post r (u.1) (u.2.1) (u.2.2.1) (u.2.2.2)) (fun (u : (Nat → Int64) × (Nat → Int32) × (Nat → Int64) × (Nat → Int32)) (t : State) => va_P (dC, dI) vwCl [(h0, .inr (1, [.int nv, .int na, .ref afbi, .ref afab, .ref afhd, .ref afin, .ref afjo, .ref afnu, .ref afre, .ref afse])), (afjo, .inl (cJ, 60, .inr (.inl (u.1)))), (afnu, .inl (cI, 60, .inl (u.2.1))), (afre, .inl (cJ, 60, .inr (.inl (u.2.2.1)))), (afse, .inl (cI, 60, .inl (u.2.2.2)))] t.heap ∧ va_K (dC, dI) vwCl [(cI, .int), (cJ, .long)] t ∧ va_D (va_A [(h0, .inr (1, [.int nv, .int na, .ref afbi, .ref afab, .ref afhd, .ref afin, .ref afjo, .ref afnu, .ref afre, .ref afse])), (afjo, .inl (cJ, 60, .inr (.inl fjo))), (afnu, .inl (cI, 60, .inl fnu)), (afre, .inl (cJ, 60, .inr (.inl fre))), (afse, .inl (cI, 60, .inl fse))] sz) [(h0, .inr (1, [.int nv, .int na, .ref afbi, .ref afab, .ref afhd, .ref afin, .ref afjo, .ref afnu, .ref afre, .ref afse])), (afjo, .inl (cJ, 60, .inr (.inl (u.1)))), (afnu, .inl (cI, 60, .inl (u.2.1))), (afre, .inl (cJ, 60, .inr (.inl (u.2.2.1)))), (afse, .inl (cI, 60, .inl (u.2.2.2)))]) (va_A [(h0, .inr (1, [.int nv, .int na, .ref afbi, .ref afab, .ref afhd, .ref afin, .ref afjo, .ref afnu, .ref afre, .ref afse])), (afjo, .inl (cJ, 60, .inr (.inl fjo))), (afnu, .inl (cI, 60, .inl fnu)), (afre, .inl (cJ, 60, .inr (.inl fre))), (afse, .inl (cI, 60, .inl fse))] sz)) 0 0 (va_A [(h0, .inr (1, [.int nv, .int na, .ref afbi, .ref afab, .ref afhd, .ref afin, .ref afjo, .ref afnu, .ref afre, .ref afse])), (afjo, .inl (cJ, 60, .inr (.inl fjo))), (afnu, .inl (cI, 60, .inl fnu)), (afre, .inl (cJ, 60, .inr (.inl fre))), (afse, .inl (cI, 60, .inl fse))] sz) := by
  refine Met.ofW (cc := cX1_joinRingOf) (maxL := 4) (ret := (some .int)) (by decide) rfl ?_
  intro p e s m args below meth c s₁ B hml hv
  obtain ⟨rfl, hsz, hP, hK, hD0, hN⟩ := hv
  have hx := B.exec
  have hb := B.bytes
  have hr := B.returns
  have hts := atoms_spec (ws := wsX1_joinRingOf) B.pre
  have hown : s.vm.findClass RX1 = some m.cls := findClass_of_methodNamed B.named
  have hlocks := B.notSynchronized
  subst hsz
  have hD := hD0.self (sz := s.heap.size)
  generalize hAe : va_A [(h0, .inr (1, [.int nv, .int na, .ref afbi, .ref afab, .ref afhd, .ref afin, .ref afjo, .ref afnu, .ref afre, .ref afse])), (afjo, .inl (cJ, 60, .inr (.inl fjo))), (afnu, .inl (cI, 60, .inl fnu)), (afre, .inl (cJ, 60, .inr (.inl fre))), (afse, .inl (cI, 60, .inl fse))] s.heap.size = A at hD ⊢
  have hA : ∀ q : Nat, s.heap.size ≤ q → A q := fun q h => by rw [← hAe]; exact Or.inr h
  have hS : va_S A s.heap s.heap [] := va_S.rf
  have hl := lv_entry ([.ref h0, .int p1]) (n := 4) (Nat.le_of_ble_eq_true rfl)
  rw [lg_entry_eq]
  generalize (lg_sl ([.ref h0, .int p1]) ++ List.replicate (4 - (lg_sl ([.ref h0, .int p1])).length) Slot.unset).toArray = ls at hl ⊢
  replace hl : lv_has ls 4 [(0, .ref h0), (1, .int p1)] := hl
  have hw0 := (show ∀ w ∈ wsX10, w ∈ wsX1_joinRingOf from by decide +kernel)
  have hw1 := hts (.fieldLink RX1 9 "EffectNets$Net" "variables" "I") (by decide +kernel)
  have hw2 := hts (.fieldLink RX1 35 "EffectNets$Net" "numbers" "[I") (by decide +kernel)
  refine hsp _ (fun (x2 : Int32) (x3 : Int32) (fjo : Nat → Int64) (fnu : Nat → Int32) (fre : Nat → Int64) (fse : Nat → Int32) => ∀ (H : Heap) (locs : List Loc) (ls : Array Slot), va_P (dC, dI) vwCl [(h0, .inr (1, [.int nv, .int na, .ref afbi, .ref afab, .ref afhd, .ref afin, .ref afjo, .ref afnu, .ref afre, .ref afse])), (afjo, .inl (cJ, 60, .inr (.inl fjo))), (afnu, .inl (cI, 60, .inl fnu)), (afre, .inl (cJ, 60, .inr (.inl fre))), (afse, .inl (cI, 60, .inl fse))] H → va_D A [(h0, .inr (1, [.int nv, .int na, .ref afbi, .ref afab, .ref afhd, .ref afin, .ref afjo, .ref afnu, .ref afre, .ref afse])), (afjo, .inl (cJ, 60, .inr (.inl fjo))), (afnu, .inl (cI, 60, .inl fnu)), (afre, .inl (cJ, 60, .inr (.inl fre))), (afse, .inl (cI, 60, .inl fse))] → va_S A s.heap H locs → lv_has ls 4 [(0, .ref h0), (1, .int p1), (2, .int x2), (3, .int x3)] → W p l e (headSpec wsX1_joinRingOf ({ frames := 4, cells := 0, slots := 0, locals := 92 })).room s m (List.toArray [.ref h0, .int p1]) below meth c H locs 0 0 (MQ below (va_Qi (fun (r : Int32) (u : (Nat → Int64) × (Nat → Int32) × (Nat → Int64) × (Nat → Int32)) => post r (u.1) (u.2.1) (u.2.2.1) (u.2.2.2)) (fun (u : (Nat → Int64) × (Nat → Int32) × (Nat → Int64) × (Nat → Int32)) (t : State) => va_P (dC, dI) vwCl [(h0, .inr (1, [.int nv, .int na, .ref afbi, .ref afab, .ref afhd, .ref afin, .ref afjo, .ref afnu, .ref afre, .ref afse])), (afjo, .inl (cJ, 60, .inr (.inl (u.1)))), (afnu, .inl (cI, 60, .inl (u.2.1))), (afre, .inl (cJ, 60, .inr (.inl (u.2.2.1)))), (afse, .inl (cI, 60, .inl (u.2.2.2)))] t.heap ∧ va_K (dC, dI) vwCl [(cI, .int), (cJ, .long)] t ∧ va_D A [(h0, .inr (1, [.int nv, .int na, .ref afbi, .ref afab, .ref afhd, .ref afin, .ref afjo, .ref afnu, .ref afre, .ref afse])), (afjo, .inl (cJ, 60, .inr (.inl (u.1)))), (afnu, .inl (cI, 60, .inl (u.2.1))), (afre, .inl (cJ, 60, .inr (.inl (u.2.2.1)))), (afse, .inl (cI, 60, .inl (u.2.2.2)))]) A) (List.toArray [.ref h0, .int p1]) s 0 0 A) (F0 m 6 ls [])) ?_ ?_
  · intro x2 x3 fjo fnu fre fse ht H locs ls hP hD hS hl
    refine lv_iload_n hx hb dX1_joinRingOf_6 rfl (lv_at hl 3 rfl) ?_
    refine lv_aload_n hx hb dX1_joinRingOf_7 rfl (lv_at hl 0 rfl) ?_
    refine va_get (D := (dC, dI)) (ci := 1) (v := .int nv) (C := RX1) (T := TX1) (N := 10) hx hb hts hw0 hown hK hP 0 rfl rfl 0 (by decide) hw1 (fun _ h9 => h9) rfl dX1_joinRingOf_8 ?_
    refine lv_icmp_ge (tgt := 49) hx hb dX1_joinRingOf_11 (by decide) (fun c1 => ?_) (fun c1 => ?_)
    · replace ht := ht.1 c1
      refine lv_iload_n hx hb dX1_joinRingOf_49 rfl (lv_at hl 2 rfl) ?_
      have hP9 : va_P (dC, dI) vwCl [(h0, .inr (1, [.int nv, .int na, .ref afbi, .ref afab, .ref afhd, .ref afin, .ref afjo, .ref afnu, .ref afre, .ref afse])), (afjo, .inl (cJ, 60, .inr (.inl fjo))), (afnu, .inl (cI, 60, .inl fnu)), (afre, .inl (cJ, 60, .inr (.inl fre))), (afse, .inl (cI, 60, .inl fse))] _ := hP
      have hD9 : va_D A [(h0, .inr (1, [.int nv, .int na, .ref afbi, .ref afab, .ref afhd, .ref afin, .ref afjo, .ref afnu, .ref afre, .ref afse])), (afjo, .inl (cJ, 60, .inr (.inl fjo))), (afnu, .inl (cI, 60, .inl fnu)), (afre, .inl (cJ, 60, .inr (.inl fre))), (afse, .inl (cI, 60, .inl fse))] := hD
      exact W.iret (v := x2) hx hb hr (fun t ht9 hW => ⟨⟨x2, (fjo, fnu, fre, fse), rfl, ht, by rw [ht9]; exact hP9, va_K.moved hW.alike hK, hD9⟩, hS.F ht9⟩) hS.2.2 dX1_joinRingOf_50
    · replace ht := ht.2 c1
      refine lv_aload_n hx hb dX1_joinRingOf_14 rfl (lv_at hl 0 rfl) ?_
      refine va_get (D := (dC, dI)) (ci := 1) (v := .ref afnu) (C := RX1) (T := TX1) (N := 10) hx hb hts hw0 hown hK hP 0 rfl rfl 7 (by decide) hw2 (fun _ h9 => h9) rfl dX1_joinRingOf_15 ?_
      refine lv_iload_n hx hb dX1_joinRingOf_18 rfl (lv_at hl 3 rfl) ?_
      obtain ⟨i2, ht⟩ := ht
      refine va_iald hx hb hK hP 2 0 rfl rfl i2 dX1_joinRingOf_19 ?_
      refine lv_iload_n hx hb dX1_joinRingOf_20 rfl (lv_at hl 3 rfl) ?_
      refine lv_icmp_ne (tgt := 43) hx hb dX1_joinRingOf_21 (by decide) (fun c3 => ?_) (fun c3 => ?_)
      · replace ht := ht.1 c3
        obtain ⟨y4, ey4⟩ : ∃ y : Int32, y = x3 + 1 := ⟨_, rfl⟩
        replace ht := ht y4 ey4
        refine lv_iinc (v := y4) (lv' := [(3, .int y4), (0, .ref h0), (1, .int p1), (2, .int x2)]) hx hb dX1_joinRingOf_43 hl (k := 3) rfl (by rw [ey4]; rfl) (by decide) rfl (fun ls hl => ?_)
        refine lv_goto (tgt := 6) hx hb dX1_joinRingOf_46 (by decide) ?_
        exact ht _ _ _ hP hD hS (lv_sub hl [1, 2, 3, 0] rfl)
      · replace ht := ht.2 c3
        refine lv_aload_n hx hb dX1_joinRingOf_24 rfl (lv_at hl 0 rfl) ?_
        refine lv_iload_n hx hb dX1_joinRingOf_25 rfl (lv_at hl 1 rfl) ?_
        refine lv_iload_n hx hb dX1_joinRingOf_26 rfl (lv_at hl 3 rfl) ?_
        have hPc := hP.sub (ws' := [(h0, .inr (1, [.int nv, .int na, .ref afbi, .ref afab, .ref afhd, .ref afin, .ref afjo, .ref afnu, .ref afre, .ref afse])), (afre, .inl (cJ, 60, .inr (.inl fre)))]) [0, 3] rfl
        have hDc := hD.sub (ws' := [(h0, .inr (1, [.int nv, .int na, .ref afbi, .ref afab, .ref afhd, .ref afin, .ref afjo, .ref afnu, .ref afre, .ref afse])), (afre, .inl (cJ, 60, .inr (.inl fre)))]) [0, 3] (by decide) rfl
        have hFc := va_free (wc := [(h0, .inr (1, [.int nv, .int na, .ref afbi, .ref afab, .ref afhd, .ref afin, .ref afjo, .ref afnu, .ref afre, .ref afse])), (afre, .inl (cJ, 60, .inr (.inl fre)))]) hD hS hA [0, 3] rfl
        refine va_calli (va_runV (As := [.int p1, .int x3]) (rest := []) ⟨hx, hb, hml, hown, hts⟩ (c_X1_inOneRing l dC dI cI cJ h0 afbi afab afhd afin afjo afnu afre afse nv na fre H.size p1 x3 _ ht) (cwV 2 hts gX1_joinRingOf_X1_inOneRing rfl rfl rfl (by decide +kernel) ⟨Nat.le_of_ble_eq_true rfl, Nat.le_of_ble_eq_true rfl⟩) ⟨fun a U g mk q => by obtain ⟨q0, q1, qP, qK, qD, qN⟩ := q; exact ⟨q0, q1, qP, va_K.moved (u := U) (U := U.calling g mk a) (Vm.Alike.refl U.vm) qK, qD, nw_same rfl qN⟩, va_recv hK hP (ci := 1) (q0 := 0) rfl rfl, fun U hU hW => ⟨rfl, by rw [hU], by rw [hU]; exact hPc, va_K.moved hW.alike hK, hDc.weaken (fun _ _ _ _ => trivial), nw_warm hW hN⟩⟩ rfl rfl hl.1 rfl (lv_room (Nat.le_of_ble_eq_true rfl)) dX1_joinRingOf_27 ⟨Nat.le_of_ble_eq_true rfl, Nat.le_of_ble_eq_true rfl⟩) hS (fun q _ h => hFc q h) hFc (fun r5 u t H1 locs ht9 hvm hw hB hz1 hk1 hS => ?_)
        obtain ⟨hP1, hK1, hD1⟩ := hB
        rw [ht9] at hP1
        try dsimp only at hw
        replace ht := hw
        obtain ⟨hP, hD⟩ := va_join (wr := [(afjo, .inl (cJ, 60, .inr (.inl fjo))), (afnu, .inl (cI, 60, .inl fnu)), (afse, .inl (cI, 60, .inl fse))]) (w1 := [(h0, .inr (1, [.int nv, .int na, .ref afbi, .ref afab, .ref afhd, .ref afin, .ref afjo, .ref afnu, .ref afre, .ref afse])), (afre, .inl (cJ, 60, .inr (.inl fre)))]) hP hD [0, 3] [1, 2, 4] rfl rfl (by decide) (by decide) hk1 hFc hP1 hD1
        generalize H1 = H at hP hS ⊢
        replace hP : va_P (dC, dI) vwCl [(afjo, .inl (cJ, 60, .inr (.inl fjo))), (afnu, .inl (cI, 60, .inl fnu)), (afse, .inl (cI, 60, .inl fse)), (h0, .inr (1, [.int nv, .int na, .ref afbi, .ref afab, .ref afhd, .ref afin, .ref afjo, .ref afnu, .ref afre, .ref afse])), (afre, .inl (cJ, 60, .inr (.inl fre)))] H := hP
        replace hD : va_D A [(afjo, .inl (cJ, 60, .inr (.inl fjo))), (afnu, .inl (cI, 60, .inl fnu)), (afse, .inl (cI, 60, .inl fse)), (h0, .inr (1, [.int nv, .int na, .ref afbi, .ref afab, .ref afhd, .ref afin, .ref afjo, .ref afnu, .ref afre, .ref afse])), (afre, .inl (cJ, 60, .inr (.inl fre)))] := hD
        refine lv_if_eq (tgt := 43) hx hb dX1_joinRingOf_30 (by decide) (fun c6 => ?_) (fun c6 => ?_)
        · replace ht := ht.1 c6
          obtain ⟨y7, ey7⟩ : ∃ y : Int32, y = x3 + 1 := ⟨_, rfl⟩
          replace ht := ht y7 ey7
          refine lv_iinc (v := y7) (lv' := [(3, .int y7), (0, .ref h0), (1, .int p1), (2, .int x2)]) hx hb dX1_joinRingOf_43 hl (k := 3) rfl (by rw [ey7]; rfl) (by decide) rfl (fun ls hl => ?_)
          refine lv_goto (tgt := 6) hx hb dX1_joinRingOf_46 (by decide) ?_
          exact ht _ _ _ (hP.sub [3, 0, 1, 4, 2] rfl) (hD.sub [3, 0, 1, 4, 2] (by decide) rfl) hS (lv_sub hl [1, 2, 3, 0] rfl)
        · replace ht := ht.2 c6
          refine lv_aload_n hx hb dX1_joinRingOf_33 rfl (lv_at hl 0 rfl) ?_
          refine lv_iload_n hx hb dX1_joinRingOf_34 rfl (lv_at hl 1 rfl) ?_
          refine lv_iload_n hx hb dX1_joinRingOf_35 rfl (lv_at hl 3 rfl) ?_
          have hPc := hP.sub (ws' := [(h0, .inr (1, [.int nv, .int na, .ref afbi, .ref afab, .ref afhd, .ref afin, .ref afjo, .ref afnu, .ref afre, .ref afse])), (afjo, .inl (cJ, 60, .inr (.inl fjo))), (afnu, .inl (cI, 60, .inl fnu)), (afre, .inl (cJ, 60, .inr (.inl fre))), (afse, .inl (cI, 60, .inl fse))]) [3, 0, 1, 4, 2] rfl
          have hDc := hD.sub (ws' := [(h0, .inr (1, [.int nv, .int na, .ref afbi, .ref afab, .ref afhd, .ref afin, .ref afjo, .ref afnu, .ref afre, .ref afse])), (afjo, .inl (cJ, 60, .inr (.inl fjo))), (afnu, .inl (cI, 60, .inl fnu)), (afre, .inl (cJ, 60, .inr (.inl fre))), (afse, .inl (cI, 60, .inl fse))]) [3, 0, 1, 4, 2] (by decide) rfl
          have hFc := va_free (wc := [(h0, .inr (1, [.int nv, .int na, .ref afbi, .ref afab, .ref afhd, .ref afin, .ref afjo, .ref afnu, .ref afre, .ref afse])), (afjo, .inl (cJ, 60, .inr (.inl fjo))), (afnu, .inl (cI, 60, .inl fnu)), (afre, .inl (cJ, 60, .inr (.inl fre))), (afse, .inl (cI, 60, .inl fse))]) hD hS hA [3, 0, 1, 4, 2] rfl
          refine va_calli (va_runV (As := [.int p1, .int x3]) (rest := []) ⟨hx, hb, hml, hown, hts⟩ (c_X1_tellOne l dC dI cI cJ h0 afbi afab afhd afin afjo afnu afre afse nv na fjo fnu fre fse H.size p1 x3 _ ht) (cwV 2 hts gX1_joinRingOf_X1_tellOne rfl rfl rfl (by decide +kernel) ⟨Nat.le_of_ble_eq_true rfl, Nat.le_of_ble_eq_true rfl⟩) ⟨fun a U g mk q => by obtain ⟨q0, q1, qP, qK, qD, qN⟩ := q; exact ⟨q0, q1, qP, va_K.moved (u := U) (U := U.calling g mk a) (Vm.Alike.refl U.vm) qK, qD, nw_same rfl qN⟩, va_recv hK hP (ci := 1) (q0 := 3) rfl rfl, fun U hU hW => ⟨rfl, by rw [hU], by rw [hU]; exact hPc, va_K.moved hW.alike hK, hDc.weaken (fun _ _ _ _ => trivial), nw_warm hW hN⟩⟩ rfl rfl hl.1 rfl (lv_room (Nat.le_of_ble_eq_true rfl)) dX1_joinRingOf_36 ⟨Nat.le_of_ble_eq_true rfl, Nat.le_of_ble_eq_true rfl⟩) hS (fun q _ h => hFc q h) hFc (fun r8 u t H1 locs ht9 hvm hw hB hz1 hk1 hS => ?_)
          obtain ⟨fjo_9, fnu_10, fre_11, fse_12⟩ := u
          obtain ⟨hP1, hK1, hD1⟩ := hB
          rw [ht9] at hP1
          try dsimp only at hw
          replace ht := hw
          obtain ⟨hP, hD⟩ := va_join (wr := []) (w1 := [(h0, .inr (1, [.int nv, .int na, .ref afbi, .ref afab, .ref afhd, .ref afin, .ref afjo, .ref afnu, .ref afre, .ref afse])), (afjo, .inl (cJ, 60, .inr (.inl fjo_9))), (afnu, .inl (cI, 60, .inl fnu_10)), (afre, .inl (cJ, 60, .inr (.inl fre_11))), (afse, .inl (cI, 60, .inl fse_12))]) hP hD [3, 0, 1, 4, 2] [] rfl rfl (by decide) (by decide) hk1 hFc hP1 hD1
          generalize H1 = H at hP hS ⊢
          replace hP : va_P (dC, dI) vwCl [(h0, .inr (1, [.int nv, .int na, .ref afbi, .ref afab, .ref afhd, .ref afin, .ref afjo, .ref afnu, .ref afre, .ref afse])), (afjo, .inl (cJ, 60, .inr (.inl fjo_9))), (afnu, .inl (cI, 60, .inl fnu_10)), (afre, .inl (cJ, 60, .inr (.inl fre_11))), (afse, .inl (cI, 60, .inl fse_12))] H := hP
          replace hD : va_D A [(h0, .inr (1, [.int nv, .int na, .ref afbi, .ref afab, .ref afhd, .ref afin, .ref afjo, .ref afnu, .ref afre, .ref afse])), (afjo, .inl (cJ, 60, .inr (.inl fjo_9))), (afnu, .inl (cI, 60, .inl fnu_10)), (afre, .inl (cJ, 60, .inr (.inl fre_11))), (afse, .inl (cI, 60, .inl fse_12))] := hD
          refine lv_pop hx hb dX1_joinRingOf_39 rfl ?_
          obtain ⟨y13, ey13⟩ : ∃ y : Int32, y = x2 + 1 := ⟨_, rfl⟩
          replace ht := ht y13 ey13
          refine lv_iinc (v := y13) (lv' := [(2, .int y13), (0, .ref h0), (1, .int p1), (3, .int x3)]) hx hb dX1_joinRingOf_40 hl (k := 2) rfl (by rw [ey13]; rfl) (by decide) rfl (fun ls hl => ?_)
          obtain ⟨y14, ey14⟩ : ∃ y : Int32, y = x3 + 1 := ⟨_, rfl⟩
          replace ht := ht y14 ey14
          refine lv_iinc (v := y14) (lv' := [(3, .int y14), (2, .int y13), (0, .ref h0), (1, .int p1)]) hx hb dX1_joinRingOf_43 hl (k := 3) rfl (by rw [ey14]; rfl) (by decide) rfl (fun ls hl => ?_)
          refine lv_goto (tgt := 6) hx hb dX1_joinRingOf_46 (by decide) ?_
          exact ht _ _ _ hP hD hS (lv_sub hl [2, 3, 1, 0] rfl)
  · intro ht
    refine lv_iconst (v := 0) hx hb dX1_joinRingOf_0 (by decide) ?_
    refine lv_istore_n (lv' := [(2, .int 0), (0, .ref h0), (1, .int p1)]) hx hb dX1_joinRingOf_1 rfl hl (by decide) rfl (fun ls hl => ?_)
    refine lv_iload_n hx hb dX1_joinRingOf_2 rfl (lv_at hl 2 rfl) ?_
    refine lv_iconst (v := 1) hx hb dX1_joinRingOf_3 (by decide) ?_
    refine lv_iadd hx hb dX1_joinRingOf_4 ?_
    refine lv_topi (fun y15 ey15 => ?_)
    replace ht := ht y15 ey15
    refine lv_istore_n (lv' := [(3, .int y15), (2, .int 0), (0, .ref h0), (1, .int p1)]) hx hb dX1_joinRingOf_5 rfl hl (by decide) rfl (fun ls hl => ?_)
    exact ht _ _ _ hP hD hS (lv_sub hl [2, 3, 1, 0] rfl)
set_option maxHeartbeats 4000000 in
set_option maxRecDepth 100000 in
theorem c_X1_joinRings (l : Launch) (dC : Nat → ClassId) (dI : Nat → Nat → Nat) (cI cJ : ClassId) (h0 : Nat) (afbi : Nat) (afab : Nat) (afhd : Nat) (afin : Nat) (afjo : Nat) (afnu : Nat) (afre : Nat) (afse : Nat) (nv : Int32) (na : Int32) (fjo : Nat → Int64) (fnu : Nat → Int32) (fre : Nat → Int64) (fse : Nat → Int32) (sz : Nat) (post : Int32 → (Nat → Int64) → (Nat → Int32) → (Nat → Int64) → (Nat → Int32) → Prop) (hsp : S_X1_joinRings nv fjo fnu fre fse post) : Met l yX1_joinRings wsX1_joinRings ({ frames := 5, cells := 0, slots := 0, locals := 115 }) (va_Pc [.ref h0] (fun U => U.heap.size = sz ∧ va_P (dC, dI) vwCl [(h0, .inr (1, [.int nv, .int na, .ref afbi, .ref afab, .ref afhd, .ref afin, .ref afjo, .ref afnu, .ref afre, .ref afse])), (afjo, .inl (cJ, 60, .inr (.inl fjo))), (afnu, .inl (cI, 60, .inl fnu)), (afre, .inl (cJ, 60, .inr (.inl fre))), (afse, .inl (cI, 60, .inl fse))] U.heap ∧ va_K (dC, dI) vwCl [(cI, .int), (cJ, .long)] U ∧ va_D (fun _ => True) [(h0, .inr (1, [.int nv, .int na, .ref afbi, .ref afab, .ref afhd, .ref afin, .ref afjo, .ref afnu, .ref afre, .ref afse])), (afjo, .inl (cJ, 60, .inr (.inl fjo))), (afnu, .inl (cI, 60, .inl fnu)), (afre, .inl (cJ, 60, .inr (.inl fre))), (afse, .inl (cI, 60, .inl fse))] ∧ nw U)) (va_Qi (fun (r : Int32) (u : (Nat → Int64) × (Nat → Int32) × (Nat → Int64) × (Nat → Int32)) => post r (u.1) (u.2.1) (u.2.2.1) (u.2.2.2)) (fun (u : (Nat → Int64) × (Nat → Int32) × (Nat → Int64) × (Nat → Int32)) (t : State) => va_P (dC, dI) vwCl [(h0, .inr (1, [.int nv, .int na, .ref afbi, .ref afab, .ref afhd, .ref afin, .ref afjo, .ref afnu, .ref afre, .ref afse])), (afjo, .inl (cJ, 60, .inr (.inl (u.1)))), (afnu, .inl (cI, 60, .inl (u.2.1))), (afre, .inl (cJ, 60, .inr (.inl (u.2.2.1)))), (afse, .inl (cI, 60, .inl (u.2.2.2)))] t.heap ∧ va_K (dC, dI) vwCl [(cI, .int), (cJ, .long)] t ∧ va_D (va_A [(h0, .inr (1, [.int nv, .int na, .ref afbi, .ref afab, .ref afhd, .ref afin, .ref afjo, .ref afnu, .ref afre, .ref afse])), (afjo, .inl (cJ, 60, .inr (.inl fjo))), (afnu, .inl (cI, 60, .inl fnu)), (afre, .inl (cJ, 60, .inr (.inl fre))), (afse, .inl (cI, 60, .inl fse))] sz) [(h0, .inr (1, [.int nv, .int na, .ref afbi, .ref afab, .ref afhd, .ref afin, .ref afjo, .ref afnu, .ref afre, .ref afse])), (afjo, .inl (cJ, 60, .inr (.inl (u.1)))), (afnu, .inl (cI, 60, .inl (u.2.1))), (afre, .inl (cJ, 60, .inr (.inl (u.2.2.1)))), (afse, .inl (cI, 60, .inl (u.2.2.2)))]) (va_A [(h0, .inr (1, [.int nv, .int na, .ref afbi, .ref afab, .ref afhd, .ref afin, .ref afjo, .ref afnu, .ref afre, .ref afse])), (afjo, .inl (cJ, 60, .inr (.inl fjo))), (afnu, .inl (cI, 60, .inl fnu)), (afre, .inl (cJ, 60, .inr (.inl fre))), (afse, .inl (cI, 60, .inl fse))] sz)) 0 0 (va_A [(h0, .inr (1, [.int nv, .int na, .ref afbi, .ref afab, .ref afhd, .ref afin, .ref afjo, .ref afnu, .ref afre, .ref afse])), (afjo, .inl (cJ, 60, .inr (.inl fjo))), (afnu, .inl (cI, 60, .inl fnu)), (afre, .inl (cJ, 60, .inr (.inl fre))), (afse, .inl (cI, 60, .inl fse))] sz) := by
  refine Met.ofW (cc := cX1_joinRings) (maxL := 3) (ret := (some .int)) (by decide) rfl ?_
  intro p e s m args below meth c s₁ B hml hv
  obtain ⟨rfl, hsz, hP, hK, hD0, hN⟩ := hv
  have hx := B.exec
  have hb := B.bytes
  have hr := B.returns
  have hts := atoms_spec (ws := wsX1_joinRings) B.pre
  have hown : s.vm.findClass RX1 = some m.cls := findClass_of_methodNamed B.named
  have hlocks := B.notSynchronized
  subst hsz
  have hD := hD0.self (sz := s.heap.size)
  generalize hAe : va_A [(h0, .inr (1, [.int nv, .int na, .ref afbi, .ref afab, .ref afhd, .ref afin, .ref afjo, .ref afnu, .ref afre, .ref afse])), (afjo, .inl (cJ, 60, .inr (.inl fjo))), (afnu, .inl (cI, 60, .inl fnu)), (afre, .inl (cJ, 60, .inr (.inl fre))), (afse, .inl (cI, 60, .inl fse))] s.heap.size = A at hD ⊢
  have hA : ∀ q : Nat, s.heap.size ≤ q → A q := fun q h => by rw [← hAe]; exact Or.inr h
  have hS : va_S A s.heap s.heap [] := va_S.rf
  have hl := lv_entry ([.ref h0]) (n := 3) (Nat.le_of_ble_eq_true rfl)
  rw [lg_entry_eq]
  generalize (lg_sl ([.ref h0]) ++ List.replicate (3 - (lg_sl ([.ref h0])).length) Slot.unset).toArray = ls at hl ⊢
  replace hl : lv_has ls 3 [(0, .ref h0)] := hl
  have hw0 := (show ∀ w ∈ wsX10, w ∈ wsX1_joinRings from by decide +kernel)
  have hw1 := hts (.fieldLink RX1 9 "EffectNets$Net" "variables" "I") (by decide +kernel)
  have hw2 := hts (.fieldLink RX1 35 "EffectNets$Net" "numbers" "[I") (by decide +kernel)
  refine hsp _ (fun (x1 : Int32) (x2 : Int32) (fjo : Nat → Int64) (fnu : Nat → Int32) (fre : Nat → Int64) (fse : Nat → Int32) => ∀ (H : Heap) (locs : List Loc) (ls : Array Slot), va_P (dC, dI) vwCl [(h0, .inr (1, [.int nv, .int na, .ref afbi, .ref afab, .ref afhd, .ref afin, .ref afjo, .ref afnu, .ref afre, .ref afse])), (afjo, .inl (cJ, 60, .inr (.inl fjo))), (afnu, .inl (cI, 60, .inl fnu)), (afre, .inl (cJ, 60, .inr (.inl fre))), (afse, .inl (cI, 60, .inl fse))] H → va_D A [(h0, .inr (1, [.int nv, .int na, .ref afbi, .ref afab, .ref afhd, .ref afin, .ref afjo, .ref afnu, .ref afre, .ref afse])), (afjo, .inl (cJ, 60, .inr (.inl fjo))), (afnu, .inl (cI, 60, .inl fnu)), (afre, .inl (cJ, 60, .inr (.inl fre))), (afse, .inl (cI, 60, .inl fse))] → va_S A s.heap H locs → lv_has ls 3 [(0, .ref h0), (1, .int x1), (2, .int x2)] → W p l e (headSpec wsX1_joinRings ({ frames := 5, cells := 0, slots := 0, locals := 115 })).room s m (List.toArray [.ref h0]) below meth c H locs 0 0 (MQ below (va_Qi (fun (r : Int32) (u : (Nat → Int64) × (Nat → Int32) × (Nat → Int64) × (Nat → Int32)) => post r (u.1) (u.2.1) (u.2.2.1) (u.2.2.2)) (fun (u : (Nat → Int64) × (Nat → Int32) × (Nat → Int64) × (Nat → Int32)) (t : State) => va_P (dC, dI) vwCl [(h0, .inr (1, [.int nv, .int na, .ref afbi, .ref afab, .ref afhd, .ref afin, .ref afjo, .ref afnu, .ref afre, .ref afse])), (afjo, .inl (cJ, 60, .inr (.inl (u.1)))), (afnu, .inl (cI, 60, .inl (u.2.1))), (afre, .inl (cJ, 60, .inr (.inl (u.2.2.1)))), (afse, .inl (cI, 60, .inl (u.2.2.2)))] t.heap ∧ va_K (dC, dI) vwCl [(cI, .int), (cJ, .long)] t ∧ va_D A [(h0, .inr (1, [.int nv, .int na, .ref afbi, .ref afab, .ref afhd, .ref afin, .ref afjo, .ref afnu, .ref afre, .ref afse])), (afjo, .inl (cJ, 60, .inr (.inl (u.1)))), (afnu, .inl (cI, 60, .inl (u.2.1))), (afre, .inl (cJ, 60, .inr (.inl (u.2.2.1)))), (afse, .inl (cI, 60, .inl (u.2.2.2)))]) A) (List.toArray [.ref h0]) s 0 0 A) (F0 m 4 ls [])) ?_ ?_
  · intro x1 x2 fjo fnu fre fse ht H locs ls hP hD hS hl
    refine lv_iload_n hx hb dX1_joinRings_4 rfl (lv_at hl 2 rfl) ?_
    refine lv_aload_n hx hb dX1_joinRings_5 rfl (lv_at hl 0 rfl) ?_
    refine va_get (D := (dC, dI)) (ci := 1) (v := .int nv) (C := RX1) (T := TX1) (N := 10) hx hb hts hw0 hown hK hP 0 rfl rfl 0 (by decide) hw1 (fun _ h9 => h9) rfl dX1_joinRings_6 ?_
    refine lv_icmp_ge (tgt := 36) hx hb dX1_joinRings_9 (by decide) (fun c1 => ?_) (fun c1 => ?_)
    · replace ht := ht.1 c1
      refine lv_iload_n hx hb dX1_joinRings_36 rfl (lv_at hl 1 rfl) ?_
      have hP9 : va_P (dC, dI) vwCl [(h0, .inr (1, [.int nv, .int na, .ref afbi, .ref afab, .ref afhd, .ref afin, .ref afjo, .ref afnu, .ref afre, .ref afse])), (afjo, .inl (cJ, 60, .inr (.inl fjo))), (afnu, .inl (cI, 60, .inl fnu)), (afre, .inl (cJ, 60, .inr (.inl fre))), (afse, .inl (cI, 60, .inl fse))] _ := hP
      have hD9 : va_D A [(h0, .inr (1, [.int nv, .int na, .ref afbi, .ref afab, .ref afhd, .ref afin, .ref afjo, .ref afnu, .ref afre, .ref afse])), (afjo, .inl (cJ, 60, .inr (.inl fjo))), (afnu, .inl (cI, 60, .inl fnu)), (afre, .inl (cJ, 60, .inr (.inl fre))), (afse, .inl (cI, 60, .inl fse))] := hD
      exact W.iret (v := x1) hx hb hr (fun t ht9 hW => ⟨⟨x1, (fjo, fnu, fre, fse), rfl, ht, by rw [ht9]; exact hP9, va_K.moved hW.alike hK, hD9⟩, hS.F ht9⟩) hS.2.2 dX1_joinRings_37
    · replace ht := ht.2 c1
      refine lv_aload_n hx hb dX1_joinRings_12 rfl (lv_at hl 0 rfl) ?_
      refine va_get (D := (dC, dI)) (ci := 1) (v := .ref afnu) (C := RX1) (T := TX1) (N := 10) hx hb hts hw0 hown hK hP 0 rfl rfl 7 (by decide) hw2 (fun _ h9 => h9) rfl dX1_joinRings_13 ?_
      refine lv_iload_n hx hb dX1_joinRings_16 rfl (lv_at hl 2 rfl) ?_
      obtain ⟨i2, ht⟩ := ht
      refine va_iald hx hb hK hP 2 0 rfl rfl i2 dX1_joinRings_17 ?_
      refine lv_iload_n hx hb dX1_joinRings_18 rfl (lv_at hl 2 rfl) ?_
      refine lv_icmp_ne (tgt := 30) hx hb dX1_joinRings_19 (by decide) (fun c3 => ?_) (fun c3 => ?_)
      · replace ht := ht.1 c3
        obtain ⟨y4, ey4⟩ : ∃ y : Int32, y = x2 + 1 := ⟨_, rfl⟩
        replace ht := ht y4 ey4
        refine lv_iinc (v := y4) (lv' := [(2, .int y4), (0, .ref h0), (1, .int x1)]) hx hb dX1_joinRings_30 hl (k := 2) rfl (by rw [ey4]; rfl) (by decide) rfl (fun ls hl => ?_)
        refine lv_goto (tgt := 4) hx hb dX1_joinRings_33 (by decide) ?_
        exact ht _ _ _ hP hD hS (lv_sub hl [1, 2, 0] rfl)
      · replace ht := ht.2 c3
        refine lv_iload_n hx hb dX1_joinRings_22 rfl (lv_at hl 1 rfl) ?_
        refine lv_aload_n hx hb dX1_joinRings_23 rfl (lv_at hl 0 rfl) ?_
        refine lv_iload_n hx hb dX1_joinRings_24 rfl (lv_at hl 2 rfl) ?_
        have hPc := hP.sub (ws' := [(h0, .inr (1, [.int nv, .int na, .ref afbi, .ref afab, .ref afhd, .ref afin, .ref afjo, .ref afnu, .ref afre, .ref afse])), (afjo, .inl (cJ, 60, .inr (.inl fjo))), (afnu, .inl (cI, 60, .inl fnu)), (afre, .inl (cJ, 60, .inr (.inl fre))), (afse, .inl (cI, 60, .inl fse))]) [0, 1, 2, 3, 4] rfl
        have hDc := hD.sub (ws' := [(h0, .inr (1, [.int nv, .int na, .ref afbi, .ref afab, .ref afhd, .ref afin, .ref afjo, .ref afnu, .ref afre, .ref afse])), (afjo, .inl (cJ, 60, .inr (.inl fjo))), (afnu, .inl (cI, 60, .inl fnu)), (afre, .inl (cJ, 60, .inr (.inl fre))), (afse, .inl (cI, 60, .inl fse))]) [0, 1, 2, 3, 4] (by decide) rfl
        have hFc := va_free (wc := [(h0, .inr (1, [.int nv, .int na, .ref afbi, .ref afab, .ref afhd, .ref afin, .ref afjo, .ref afnu, .ref afre, .ref afse])), (afjo, .inl (cJ, 60, .inr (.inl fjo))), (afnu, .inl (cI, 60, .inl fnu)), (afre, .inl (cJ, 60, .inr (.inl fre))), (afse, .inl (cI, 60, .inl fse))]) hD hS hA [0, 1, 2, 3, 4] rfl
        refine va_calli (va_runV (As := [.int x2]) (rest := [.int x1]) ⟨hx, hb, hml, hown, hts⟩ (c_X1_joinRingOf l dC dI cI cJ h0 afbi afab afhd afin afjo afnu afre afse nv na fjo fnu fre fse H.size x2 _ ht) (cwV 1 hts gX1_joinRings_X1_joinRingOf rfl rfl rfl (by decide +kernel) ⟨Nat.le_of_ble_eq_true rfl, Nat.le_of_ble_eq_true rfl⟩) ⟨fun a U g mk q => by obtain ⟨q0, q1, qP, qK, qD, qN⟩ := q; exact ⟨q0, q1, qP, va_K.moved (u := U) (U := U.calling g mk a) (Vm.Alike.refl U.vm) qK, qD, nw_same rfl qN⟩, va_recv hK hP (ci := 1) (q0 := 0) rfl rfl, fun U hU hW => ⟨rfl, by rw [hU], by rw [hU]; exact hPc, va_K.moved hW.alike hK, hDc.weaken (fun _ _ _ _ => trivial), nw_warm hW hN⟩⟩ rfl rfl hl.1 rfl (lv_room (Nat.le_of_ble_eq_true rfl)) dX1_joinRings_25 ⟨Nat.le_of_ble_eq_true rfl, Nat.le_of_ble_eq_true rfl⟩) hS (fun q _ h => hFc q h) hFc (fun r5 u t H1 locs ht9 hvm hw hB hz1 hk1 hS => ?_)
        obtain ⟨fjo_6, fnu_7, fre_8, fse_9⟩ := u
        obtain ⟨hP1, hK1, hD1⟩ := hB
        rw [ht9] at hP1
        try dsimp only at hw
        replace ht := hw
        obtain ⟨hP, hD⟩ := va_join (wr := []) (w1 := [(h0, .inr (1, [.int nv, .int na, .ref afbi, .ref afab, .ref afhd, .ref afin, .ref afjo, .ref afnu, .ref afre, .ref afse])), (afjo, .inl (cJ, 60, .inr (.inl fjo_6))), (afnu, .inl (cI, 60, .inl fnu_7)), (afre, .inl (cJ, 60, .inr (.inl fre_8))), (afse, .inl (cI, 60, .inl fse_9))]) hP hD [0, 1, 2, 3, 4] [] rfl rfl (by decide) (by decide) hk1 hFc hP1 hD1
        generalize H1 = H at hP hS ⊢
        replace hP : va_P (dC, dI) vwCl [(h0, .inr (1, [.int nv, .int na, .ref afbi, .ref afab, .ref afhd, .ref afin, .ref afjo, .ref afnu, .ref afre, .ref afse])), (afjo, .inl (cJ, 60, .inr (.inl fjo_6))), (afnu, .inl (cI, 60, .inl fnu_7)), (afre, .inl (cJ, 60, .inr (.inl fre_8))), (afse, .inl (cI, 60, .inl fse_9))] H := hP
        replace hD : va_D A [(h0, .inr (1, [.int nv, .int na, .ref afbi, .ref afab, .ref afhd, .ref afin, .ref afjo, .ref afnu, .ref afre, .ref afse])), (afjo, .inl (cJ, 60, .inr (.inl fjo_6))), (afnu, .inl (cI, 60, .inl fnu_7)), (afre, .inl (cJ, 60, .inr (.inl fre_8))), (afse, .inl (cI, 60, .inl fse_9))] := hD
        refine lv_iadd hx hb dX1_joinRings_28 ?_
        refine lv_topi (fun y10 ey10 => ?_)
        replace ht := ht y10 ey10
        refine lv_istore_n (lv' := [(1, .int y10), (0, .ref h0), (2, .int x2)]) hx hb dX1_joinRings_29 rfl hl (by decide) rfl (fun ls hl => ?_)
        obtain ⟨y11, ey11⟩ : ∃ y : Int32, y = x2 + 1 := ⟨_, rfl⟩
        replace ht := ht y11 ey11
        refine lv_iinc (v := y11) (lv' := [(2, .int y11), (1, .int y10), (0, .ref h0)]) hx hb dX1_joinRings_30 hl (k := 2) rfl (by rw [ey11]; rfl) (by decide) rfl (fun ls hl => ?_)
        refine lv_goto (tgt := 4) hx hb dX1_joinRings_33 (by decide) ?_
        exact ht _ _ _ hP hD hS (lv_sub hl [2, 1, 0] rfl)
  · intro ht
    refine lv_iconst (v := 0) hx hb dX1_joinRings_0 (by decide) ?_
    refine lv_istore_n (lv' := [(1, .int 0), (0, .ref h0)]) hx hb dX1_joinRings_1 rfl hl (by decide) rfl (fun ls hl => ?_)
    refine lv_iconst (v := 0) hx hb dX1_joinRings_2 (by decide) ?_
    refine lv_istore_n (lv' := [(2, .int 0), (1, .int 0), (0, .ref h0)]) hx hb dX1_joinRings_3 rfl hl (by decide) rfl (fun ls hl => ?_)
    exact ht _ _ _ hP hD hS (lv_sub hl [2, 1, 0] rfl)
set_option maxHeartbeats 4000000 in
set_option maxRecDepth 100000 in
theorem c_X1_leastOfRing (l : Launch) (dC : Nat → ClassId) (dI : Nat → Nat → Nat) (cI cJ : ClassId) (h0 : Nat) (afbi : Nat) (afab : Nat) (afhd : Nat) (afin : Nat) (afjo : Nat) (afnu : Nat) (afre : Nat) (afse : Nat) (nv : Int32) (na : Int32) (fre : Nat → Int64) (sz : Nat) (p1 : Int32) (post : Int32 → Prop) (hsp : S_X1_leastOfRing p1 fre post) : Met l yX1_leastOfRing wsX1_leastOfRing ({ frames := 2, cells := 0, slots := 0, locals := 44 }) (va_Pc [.ref h0, .int p1] (fun U => U.heap.size = sz ∧ va_P (dC, dI) vwCl [(h0, .inr (1, [.int nv, .int na, .ref afbi, .ref afab, .ref afhd, .ref afin, .ref afjo, .ref afnu, .ref afre, .ref afse])), (afre, .inl (cJ, 60, .inr (.inl fre)))] U.heap ∧ va_K (dC, dI) vwCl [(cI, .int), (cJ, .long)] U ∧ va_D (fun _ => True) [(h0, .inr (1, [.int nv, .int na, .ref afbi, .ref afab, .ref afhd, .ref afin, .ref afjo, .ref afnu, .ref afre, .ref afse])), (afre, .inl (cJ, 60, .inr (.inl fre)))] ∧ nw U)) (va_Qi (fun (r : Int32) (u : Unit) => post r) (fun (u : Unit) (t : State) => va_P (dC, dI) vwCl [(h0, .inr (1, [.int nv, .int na, .ref afbi, .ref afab, .ref afhd, .ref afin, .ref afjo, .ref afnu, .ref afre, .ref afse])), (afre, .inl (cJ, 60, .inr (.inl fre)))] t.heap ∧ va_K (dC, dI) vwCl [(cI, .int), (cJ, .long)] t ∧ va_D (va_A [(h0, .inr (1, [.int nv, .int na, .ref afbi, .ref afab, .ref afhd, .ref afin, .ref afjo, .ref afnu, .ref afre, .ref afse])), (afre, .inl (cJ, 60, .inr (.inl fre)))] sz) [(h0, .inr (1, [.int nv, .int na, .ref afbi, .ref afab, .ref afhd, .ref afin, .ref afjo, .ref afnu, .ref afre, .ref afse])), (afre, .inl (cJ, 60, .inr (.inl fre)))]) (va_A [(h0, .inr (1, [.int nv, .int na, .ref afbi, .ref afab, .ref afhd, .ref afin, .ref afjo, .ref afnu, .ref afre, .ref afse])), (afre, .inl (cJ, 60, .inr (.inl fre)))] sz)) 0 0 (va_A [(h0, .inr (1, [.int nv, .int na, .ref afbi, .ref afab, .ref afhd, .ref afin, .ref afjo, .ref afnu, .ref afre, .ref afse])), (afre, .inl (cJ, 60, .inr (.inl fre)))] sz) := by
  refine Met.ofW (cc := cX1_leastOfRing) (maxL := 3) (ret := (some .int)) (by decide) rfl ?_
  intro p e s m args below meth c s₁ B hml hv
  obtain ⟨rfl, hsz, hP, hK, hD0, hN⟩ := hv
  have hx := B.exec
  have hb := B.bytes
  have hr := B.returns
  have hts := atoms_spec (ws := wsX1_leastOfRing) B.pre
  have hown : s.vm.findClass RX1 = some m.cls := findClass_of_methodNamed B.named
  have hlocks := B.notSynchronized
  subst hsz
  have hD := hD0.self (sz := s.heap.size)
  generalize hAe : va_A [(h0, .inr (1, [.int nv, .int na, .ref afbi, .ref afab, .ref afhd, .ref afin, .ref afjo, .ref afnu, .ref afre, .ref afse])), (afre, .inl (cJ, 60, .inr (.inl fre)))] s.heap.size = A at hD ⊢
  have hA : ∀ q : Nat, s.heap.size ≤ q → A q := fun q h => by rw [← hAe]; exact Or.inr h
  have hS : va_S A s.heap s.heap [] := va_S.rf
  have hl := lv_entry ([.ref h0, .int p1]) (n := 3) (Nat.le_of_ble_eq_true rfl)
  rw [lg_entry_eq]
  generalize (lg_sl ([.ref h0, .int p1]) ++ List.replicate (3 - (lg_sl ([.ref h0, .int p1])).length) Slot.unset).toArray = ls at hl ⊢
  replace hl : lv_has ls 3 [(0, .ref h0), (1, .int p1)] := hl
  refine hsp _ (fun (x2 : Int32) => ∀ (H : Heap) (locs : List Loc) (ls : Array Slot), va_P (dC, dI) vwCl [(h0, .inr (1, [.int nv, .int na, .ref afbi, .ref afab, .ref afhd, .ref afin, .ref afjo, .ref afnu, .ref afre, .ref afse])), (afre, .inl (cJ, 60, .inr (.inl fre)))] H → va_D A [(h0, .inr (1, [.int nv, .int na, .ref afbi, .ref afab, .ref afhd, .ref afin, .ref afjo, .ref afnu, .ref afre, .ref afse])), (afre, .inl (cJ, 60, .inr (.inl fre)))] → va_S A s.heap H locs → lv_has ls 3 [(0, .ref h0), (1, .int p1), (2, .int x2)] → W p l e (headSpec wsX1_leastOfRing ({ frames := 2, cells := 0, slots := 0, locals := 44 })).room s m (List.toArray [.ref h0, .int p1]) below meth c H locs 0 0 (MQ below (va_Qi (fun (r : Int32) (u : Unit) => post r) (fun (u : Unit) (t : State) => va_P (dC, dI) vwCl [(h0, .inr (1, [.int nv, .int na, .ref afbi, .ref afab, .ref afhd, .ref afin, .ref afjo, .ref afnu, .ref afre, .ref afse])), (afre, .inl (cJ, 60, .inr (.inl fre)))] t.heap ∧ va_K (dC, dI) vwCl [(cI, .int), (cJ, .long)] t ∧ va_D A [(h0, .inr (1, [.int nv, .int na, .ref afbi, .ref afab, .ref afhd, .ref afin, .ref afjo, .ref afnu, .ref afre, .ref afse])), (afre, .inl (cJ, 60, .inr (.inl fre)))]) A) (List.toArray [.ref h0, .int p1]) s 0 0 A) (F0 m 2 ls [])) ?_ ?_
  · intro x2 ht H locs ls hP hD hS hl
    refine lv_iload_n hx hb dX1_leastOfRing_2 rfl (lv_at hl 2 rfl) ?_
    refine lv_iload_n hx hb dX1_leastOfRing_3 rfl (lv_at hl 1 rfl) ?_
    refine lv_icmp_ge (tgt := 24) hx hb dX1_leastOfRing_4 (by decide) (fun c1 => ?_) (fun c1 => ?_)
    · replace ht := ht.1 c1
      refine lv_iload_n hx hb dX1_leastOfRing_24 rfl (lv_at hl 1 rfl) ?_
      have hP9 : va_P (dC, dI) vwCl [(h0, .inr (1, [.int nv, .int na, .ref afbi, .ref afab, .ref afhd, .ref afin, .ref afjo, .ref afnu, .ref afre, .ref afse])), (afre, .inl (cJ, 60, .inr (.inl fre)))] _ := hP
      have hD9 : va_D A [(h0, .inr (1, [.int nv, .int na, .ref afbi, .ref afab, .ref afhd, .ref afin, .ref afjo, .ref afnu, .ref afre, .ref afse])), (afre, .inl (cJ, 60, .inr (.inl fre)))] := hD
      exact W.iret (v := p1) hx hb hr (fun t ht9 hW => ⟨⟨p1, (), rfl, ht, by rw [ht9]; exact hP9, va_K.moved hW.alike hK, hD9⟩, hS.F ht9⟩) hS.2.2 dX1_leastOfRing_25
    · replace ht := ht.2 c1
      refine lv_aload_n hx hb dX1_leastOfRing_7 rfl (lv_at hl 0 rfl) ?_
      refine lv_iload_n hx hb dX1_leastOfRing_8 rfl (lv_at hl 2 rfl) ?_
      refine lv_iload_n hx hb dX1_leastOfRing_9 rfl (lv_at hl 1 rfl) ?_
      have hPc := hP.sub (ws' := [(h0, .inr (1, [.int nv, .int na, .ref afbi, .ref afab, .ref afhd, .ref afin, .ref afjo, .ref afnu, .ref afre, .ref afse])), (afre, .inl (cJ, 60, .inr (.inl fre)))]) [0, 1] rfl
      have hDc := hD.sub (ws' := [(h0, .inr (1, [.int nv, .int na, .ref afbi, .ref afab, .ref afhd, .ref afin, .ref afjo, .ref afnu, .ref afre, .ref afse])), (afre, .inl (cJ, 60, .inr (.inl fre)))]) [0, 1] (by decide) rfl
      have hFc := va_free (wc := [(h0, .inr (1, [.int nv, .int na, .ref afbi, .ref afab, .ref afhd, .ref afin, .ref afjo, .ref afnu, .ref afre, .ref afse])), (afre, .inl (cJ, 60, .inr (.inl fre)))]) hD hS hA [0, 1] rfl
      refine va_calli (va_runV (As := [.int x2, .int p1]) (rest := []) ⟨hx, hb, hml, hown, hts⟩ (c_X1_inOneRing l dC dI cI cJ h0 afbi afab afhd afin afjo afnu afre afse nv na fre H.size x2 p1 _ ht) (cwV 2 hts gX1_leastOfRing_X1_inOneRing rfl rfl rfl (by decide +kernel) ⟨Nat.le_of_ble_eq_true rfl, Nat.le_of_ble_eq_true rfl⟩) ⟨fun a U g mk q => by obtain ⟨q0, q1, qP, qK, qD, qN⟩ := q; exact ⟨q0, q1, qP, va_K.moved (u := U) (U := U.calling g mk a) (Vm.Alike.refl U.vm) qK, qD, nw_same rfl qN⟩, va_recv hK hP (ci := 1) (q0 := 0) rfl rfl, fun U hU hW => ⟨rfl, by rw [hU], by rw [hU]; exact hPc, va_K.moved hW.alike hK, hDc.weaken (fun _ _ _ _ => trivial), nw_warm hW hN⟩⟩ rfl rfl hl.1 rfl (lv_room (Nat.le_of_ble_eq_true rfl)) dX1_leastOfRing_10 ⟨Nat.le_of_ble_eq_true rfl, Nat.le_of_ble_eq_true rfl⟩) hS (fun q _ h => hFc q h) hFc (fun r2 u t H1 locs ht9 hvm hw hB hz1 hk1 hS => ?_)
      obtain ⟨hP1, hK1, hD1⟩ := hB
      rw [ht9] at hP1
      try dsimp only at hw
      replace ht := hw
      obtain ⟨hP, hD⟩ := va_join (wr := []) (w1 := [(h0, .inr (1, [.int nv, .int na, .ref afbi, .ref afab, .ref afhd, .ref afin, .ref afjo, .ref afnu, .ref afre, .ref afse])), (afre, .inl (cJ, 60, .inr (.inl fre)))]) hP hD [0, 1] [] rfl rfl (by decide) (by decide) hk1 hFc hP1 hD1
      generalize H1 = H at hP hS ⊢
      replace hP : va_P (dC, dI) vwCl [(h0, .inr (1, [.int nv, .int na, .ref afbi, .ref afab, .ref afhd, .ref afin, .ref afjo, .ref afnu, .ref afre, .ref afse])), (afre, .inl (cJ, 60, .inr (.inl fre)))] H := hP
      replace hD : va_D A [(h0, .inr (1, [.int nv, .int na, .ref afbi, .ref afab, .ref afhd, .ref afin, .ref afjo, .ref afnu, .ref afre, .ref afse])), (afre, .inl (cJ, 60, .inr (.inl fre)))] := hD
      refine lv_if_eq (tgt := 18) hx hb dX1_leastOfRing_13 (by decide) (fun c3 => ?_) (fun c3 => ?_)
      · replace ht := ht.1 c3
        obtain ⟨y4, ey4⟩ : ∃ y : Int32, y = x2 + 1 := ⟨_, rfl⟩
        replace ht := ht y4 ey4
        refine lv_iinc (v := y4) (lv' := [(2, .int y4), (0, .ref h0), (1, .int p1)]) hx hb dX1_leastOfRing_18 hl (k := 2) rfl (by rw [ey4]; rfl) (by decide) rfl (fun ls hl => ?_)
        refine lv_goto (tgt := 2) hx hb dX1_leastOfRing_21 (by decide) ?_
        exact ht _ _ _ hP hD hS (lv_sub hl [1, 2, 0] rfl)
      · replace ht := ht.2 c3
        refine lv_iload_n hx hb dX1_leastOfRing_16 rfl (lv_at hl 2 rfl) ?_
        have hP9 : va_P (dC, dI) vwCl [(h0, .inr (1, [.int nv, .int na, .ref afbi, .ref afab, .ref afhd, .ref afin, .ref afjo, .ref afnu, .ref afre, .ref afse])), (afre, .inl (cJ, 60, .inr (.inl fre)))] _ := hP
        have hD9 : va_D A [(h0, .inr (1, [.int nv, .int na, .ref afbi, .ref afab, .ref afhd, .ref afin, .ref afjo, .ref afnu, .ref afre, .ref afse])), (afre, .inl (cJ, 60, .inr (.inl fre)))] := hD
        exact W.iret (v := x2) hx hb hr (fun t ht9 hW => ⟨⟨x2, (), rfl, ht, by rw [ht9]; exact hP9, va_K.moved hW.alike hK, hD9⟩, hS.F ht9⟩) hS.2.2 dX1_leastOfRing_17
  · intro ht
    refine lv_iconst (v := 0) hx hb dX1_leastOfRing_0 (by decide) ?_
    refine lv_istore_n (lv' := [(2, .int 0), (0, .ref h0), (1, .int p1)]) hx hb dX1_leastOfRing_1 rfl hl (by decide) rfl (fun ls hl => ?_)
    exact ht _ _ _ hP hD hS (lv_sub hl [1, 2, 0] rfl)

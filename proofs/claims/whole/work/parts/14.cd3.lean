set_option maxHeartbeats 4000000 in
set_option maxRecDepth 100000 in
theorem c_X4_ofAtom (l : Launch) (dC : Nat → ClassId) (dI : Nat → Nat → Nat) (cI cJ : ClassId) (h0 : Nat) (agbi : Nat) (agab : Nat) (aghv : Nat) (agic : Nat) (agbe : Nat) (agmt : Nat) (agmv : Nat) (agma : Nat) (agnd : Nat) (agre : Nat) (agse : Nat) (aglv : Nat) (agal : Nat) (agds : Nat) (agno : Nat) (agna : Nat) (xth : Int32) (xnv : Int32) (xna : Int32) (xtl : Int32) (xmk : Int32) (gbi : Nat → Int32) (gab : Nat → Int32) (ghv : Nat → Int32) (gic : Nat → Int32) (gbe : Nat → Int32) (gnd : Nat → Int32) (gre : Nat → Int64) (gse : Nat → Int32) (glv : Nat → Int32) (gal : Nat → Int32) (sz : Nat) (p1 : Int32) (p2 : Int32) (post : Int32 → Int32 → (Nat → Int32) → (Nat → Int64) → (Nat → Int32) → (Nat → Int32) → (Nat → Int32) → Prop) (hsp : S_X4_ofAtom p1 p2 xth xnv xna gbi gab ghv gic gbe gnd gre gse glv gal post) : Met l yX4_ofAtom wsX4_ofAtom ({ frames := 2, cells := 0, slots := 0, locals := 44 }) (va_Pc [.ref h0, .int p1, .int p2] (fun U => U.heap.size = sz ∧ va_P (dC, dI) vwCl [(h0, .inr (4, [.int xth, .int xnv, .int xna, .ref agbi, .ref agab, .int xtl, .ref aghv, .ref agic, .ref agbe, .int xmk, .ref agmt, .ref agmv, .ref agma, .ref agnd, .ref agre, .ref agse, .ref aglv, .ref agal, .ref agds, .ref agno, .ref agna])), (agbi, .inl (cI, 60, .inl gbi)), (agab, .inl (cI, 32, .inl gab)), (aghv, .inl (cI, 1920, .inl ghv)), (agic, .inl (cI, 3600, .inl gic)), (agbe, .inl (cI, 3600, .inl gbe)), (agnd, .inl (cI, 60, .inl gnd)), (agre, .inl (cJ, 60, .inr (.inl gre))), (agse, .inl (cI, 60, .inl gse)), (aglv, .inl (cI, 60, .inl glv)), (agal, .inl (cI, 32, .inl gal))] U.heap ∧ va_K (dC, dI) vwCl [(cI, .int), (cJ, .long)] U ∧ va_D (fun _ => True) [(h0, .inr (4, [.int xth, .int xnv, .int xna, .ref agbi, .ref agab, .int xtl, .ref aghv, .ref agic, .ref agbe, .int xmk, .ref agmt, .ref agmv, .ref agma, .ref agnd, .ref agre, .ref agse, .ref aglv, .ref agal, .ref agds, .ref agno, .ref agna])), (agbi, .inl (cI, 60, .inl gbi)), (agab, .inl (cI, 32, .inl gab)), (aghv, .inl (cI, 1920, .inl ghv)), (agic, .inl (cI, 3600, .inl gic)), (agbe, .inl (cI, 3600, .inl gbe)), (agnd, .inl (cI, 60, .inl gnd)), (agre, .inl (cJ, 60, .inr (.inl gre))), (agse, .inl (cI, 60, .inl gse)), (aglv, .inl (cI, 60, .inl glv)), (agal, .inl (cI, 32, .inl gal))] ∧ nw U)) (va_Qi (fun (r : Int32) (u : Int32 × (Nat → Int32) × (Nat → Int64) × (Nat → Int32) × (Nat → Int32) × (Nat → Int32)) => post r (u.1) (u.2.1) (u.2.2.1) (u.2.2.2.1) (u.2.2.2.2.1) (u.2.2.2.2.2)) (fun (u : Int32 × (Nat → Int32) × (Nat → Int64) × (Nat → Int32) × (Nat → Int32) × (Nat → Int32)) (t : State) => va_P (dC, dI) vwCl [(h0, .inr (4, [.int (u.1), .int xnv, .int xna, .ref agbi, .ref agab, .int xtl, .ref aghv, .ref agic, .ref agbe, .int xmk, .ref agmt, .ref agmv, .ref agma, .ref agnd, .ref agre, .ref agse, .ref aglv, .ref agal, .ref agds, .ref agno, .ref agna])), (agbi, .inl (cI, 60, .inl gbi)), (agab, .inl (cI, 32, .inl gab)), (aghv, .inl (cI, 1920, .inl ghv)), (agic, .inl (cI, 3600, .inl gic)), (agbe, .inl (cI, 3600, .inl gbe)), (agnd, .inl (cI, 60, .inl (u.2.1))), (agre, .inl (cJ, 60, .inr (.inl (u.2.2.1)))), (agse, .inl (cI, 60, .inl (u.2.2.2.1))), (aglv, .inl (cI, 60, .inl (u.2.2.2.2.1))), (agal, .inl (cI, 32, .inl (u.2.2.2.2.2)))] t.heap ∧ va_K (dC, dI) vwCl [(cI, .int), (cJ, .long)] t ∧ va_D (va_A [(h0, .inr (4, [.int xth, .int xnv, .int xna, .ref agbi, .ref agab, .int xtl, .ref aghv, .ref agic, .ref agbe, .int xmk, .ref agmt, .ref agmv, .ref agma, .ref agnd, .ref agre, .ref agse, .ref aglv, .ref agal, .ref agds, .ref agno, .ref agna])), (agbi, .inl (cI, 60, .inl gbi)), (agab, .inl (cI, 32, .inl gab)), (aghv, .inl (cI, 1920, .inl ghv)), (agic, .inl (cI, 3600, .inl gic)), (agbe, .inl (cI, 3600, .inl gbe)), (agnd, .inl (cI, 60, .inl gnd)), (agre, .inl (cJ, 60, .inr (.inl gre))), (agse, .inl (cI, 60, .inl gse)), (aglv, .inl (cI, 60, .inl glv)), (agal, .inl (cI, 32, .inl gal))] sz) [(h0, .inr (4, [.int (u.1), .int xnv, .int xna, .ref agbi, .ref agab, .int xtl, .ref aghv, .ref agic, .ref agbe, .int xmk, .ref agmt, .ref agmv, .ref agma, .ref agnd, .ref agre, .ref agse, .ref aglv, .ref agal, .ref agds, .ref agno, .ref agna])), (agbi, .inl (cI, 60, .inl gbi)), (agab, .inl (cI, 32, .inl gab)), (aghv, .inl (cI, 1920, .inl ghv)), (agic, .inl (cI, 3600, .inl gic)), (agbe, .inl (cI, 3600, .inl gbe)), (agnd, .inl (cI, 60, .inl (u.2.1))), (agre, .inl (cJ, 60, .inr (.inl (u.2.2.1)))), (agse, .inl (cI, 60, .inl (u.2.2.2.1))), (aglv, .inl (cI, 60, .inl (u.2.2.2.2.1))), (agal, .inl (cI, 32, .inl (u.2.2.2.2.2)))]) (va_A [(h0, .inr (4, [.int xth, .int xnv, .int xna, .ref agbi, .ref agab, .int xtl, .ref aghv, .ref agic, .ref agbe, .int xmk, .ref agmt, .ref agmv, .ref agma, .ref agnd, .ref agre, .ref agse, .ref aglv, .ref agal, .ref agds, .ref agno, .ref agna])), (agbi, .inl (cI, 60, .inl gbi)), (agab, .inl (cI, 32, .inl gab)), (aghv, .inl (cI, 1920, .inl ghv)), (agic, .inl (cI, 3600, .inl gic)), (agbe, .inl (cI, 3600, .inl gbe)), (agnd, .inl (cI, 60, .inl gnd)), (agre, .inl (cJ, 60, .inr (.inl gre))), (agse, .inl (cI, 60, .inl gse)), (aglv, .inl (cI, 60, .inl glv)), (agal, .inl (cI, 32, .inl gal))] sz)) 0 0 (va_A [(h0, .inr (4, [.int xth, .int xnv, .int xna, .ref agbi, .ref agab, .int xtl, .ref aghv, .ref agic, .ref agbe, .int xmk, .ref agmt, .ref agmv, .ref agma, .ref agnd, .ref agre, .ref agse, .ref aglv, .ref agal, .ref agds, .ref agno, .ref agna])), (agbi, .inl (cI, 60, .inl gbi)), (agab, .inl (cI, 32, .inl gab)), (aghv, .inl (cI, 1920, .inl ghv)), (agic, .inl (cI, 3600, .inl gic)), (agbe, .inl (cI, 3600, .inl gbe)), (agnd, .inl (cI, 60, .inl gnd)), (agre, .inl (cJ, 60, .inr (.inl gre))), (agse, .inl (cI, 60, .inl gse)), (aglv, .inl (cI, 60, .inl glv)), (agal, .inl (cI, 32, .inl gal))] sz) := by
  refine Met.ofW (cc := cX4_ofAtom) (maxL := 5) (ret := (some .int)) (by decide) rfl ?_
  intro p e s m args below meth c s₁ B hml hv
  obtain ⟨rfl, hsz, hP, hK, hD0, hN⟩ := hv
  have hx := B.exec
  have hb := B.bytes
  have hr := B.returns
  have hts := atoms_spec (ws := wsX4_ofAtom) B.pre
  have hown : s.vm.findClass RX4 = some m.cls := findClass_of_methodNamed B.named
  have hlocks := B.notSynchronized
  subst hsz
  have hD := hD0.self (sz := s.heap.size)
  generalize hAe : va_A [(h0, .inr (4, [.int xth, .int xnv, .int xna, .ref agbi, .ref agab, .int xtl, .ref aghv, .ref agic, .ref agbe, .int xmk, .ref agmt, .ref agmv, .ref agma, .ref agnd, .ref agre, .ref agse, .ref aglv, .ref agal, .ref agds, .ref agno, .ref agna])), (agbi, .inl (cI, 60, .inl gbi)), (agab, .inl (cI, 32, .inl gab)), (aghv, .inl (cI, 1920, .inl ghv)), (agic, .inl (cI, 3600, .inl gic)), (agbe, .inl (cI, 3600, .inl gbe)), (agnd, .inl (cI, 60, .inl gnd)), (agre, .inl (cJ, 60, .inr (.inl gre))), (agse, .inl (cI, 60, .inl gse)), (aglv, .inl (cI, 60, .inl glv)), (agal, .inl (cI, 32, .inl gal))] s.heap.size = A at hD ⊢
  have hA : ∀ q : Nat, s.heap.size ≤ q → A q := fun q h => by rw [← hAe]; exact Or.inr h
  have hS : va_S A s.heap s.heap [] := va_S.rf
  have hl := lv_entry ([.ref h0, .int p1, .int p2]) (n := 5) (Nat.le_of_ble_eq_true rfl)
  rw [lg_entry_eq]
  generalize (lg_sl ([.ref h0, .int p1, .int p2]) ++ List.replicate (5 - (lg_sl ([.ref h0, .int p1, .int p2])).length) Slot.unset).toArray = ls at hl ⊢
  replace hl : lv_has ls 5 [(0, .ref h0), (1, .int p1), (2, .int p2)] := hl
  have hw0 := (show ∀ w ∈ wsX40, w ∈ wsX4_ofAtom from by decide +kernel)
  have hw1 := hts (.fieldLink RX4 63 "EffectNetsModel" "variables" "I") (by decide +kernel)
  have hw2 := hts (.fieldLink RX4 13 "EffectNetsModel" "atomBirth" "[I") (by decide +kernel)
  have hw3 := hts (.fieldLink RX4 47 "EffectNetsModel" "atomLevel" "[I") (by decide +kernel)
  have hw4 := hts (.fieldLink RX4 41 "EffectNetsModel" "sets" "[I") (by decide +kernel)
  refine hsp _ (fun (xth : Int32) (gnd : Nat → Int32) (gre : Nat → Int64) (gse : Nat → Int32) (glv : Nat → Int32) (gal : Nat → Int32) => ∀ (H : Heap) (locs : List Loc) (ls : Array Slot), va_P (dC, dI) vwCl [(h0, .inr (4, [.int xth, .int xnv, .int xna, .ref agbi, .ref agab, .int xtl, .ref aghv, .ref agic, .ref agbe, .int xmk, .ref agmt, .ref agmv, .ref agma, .ref agnd, .ref agre, .ref agse, .ref aglv, .ref agal, .ref agds, .ref agno, .ref agna])), (agbi, .inl (cI, 60, .inl gbi)), (agab, .inl (cI, 32, .inl gab)), (aghv, .inl (cI, 1920, .inl ghv)), (agic, .inl (cI, 3600, .inl gic)), (agbe, .inl (cI, 3600, .inl gbe)), (agnd, .inl (cI, 60, .inl gnd)), (agre, .inl (cJ, 60, .inr (.inl gre))), (agse, .inl (cI, 60, .inl gse)), (aglv, .inl (cI, 60, .inl glv)), (agal, .inl (cI, 32, .inl gal))] H → va_D A [(h0, .inr (4, [.int xth, .int xnv, .int xna, .ref agbi, .ref agab, .int xtl, .ref aghv, .ref agic, .ref agbe, .int xmk, .ref agmt, .ref agmv, .ref agma, .ref agnd, .ref agre, .ref agse, .ref aglv, .ref agal, .ref agds, .ref agno, .ref agna])), (agbi, .inl (cI, 60, .inl gbi)), (agab, .inl (cI, 32, .inl gab)), (aghv, .inl (cI, 1920, .inl ghv)), (agic, .inl (cI, 3600, .inl gic)), (agbe, .inl (cI, 3600, .inl gbe)), (agnd, .inl (cI, 60, .inl gnd)), (agre, .inl (cJ, 60, .inr (.inl gre))), (agse, .inl (cI, 60, .inl gse)), (aglv, .inl (cI, 60, .inl glv)), (agal, .inl (cI, 32, .inl gal))] → va_S A s.heap H locs → lv_has ls 5 [(0, .ref h0), (1, .int p1), (2, .int p2)] → W p l e (headSpec wsX4_ofAtom ({ frames := 2, cells := 0, slots := 0, locals := 44 })).room s m (List.toArray [.ref h0, .int p1, .int p2]) below meth c H locs 0 0 (MQ below (va_Qi (fun (r : Int32) (u : Int32 × (Nat → Int32) × (Nat → Int64) × (Nat → Int32) × (Nat → Int32) × (Nat → Int32)) => post r (u.1) (u.2.1) (u.2.2.1) (u.2.2.2.1) (u.2.2.2.2.1) (u.2.2.2.2.2)) (fun (u : Int32 × (Nat → Int32) × (Nat → Int64) × (Nat → Int32) × (Nat → Int32) × (Nat → Int32)) (t : State) => va_P (dC, dI) vwCl [(h0, .inr (4, [.int (u.1), .int xnv, .int xna, .ref agbi, .ref agab, .int xtl, .ref aghv, .ref agic, .ref agbe, .int xmk, .ref agmt, .ref agmv, .ref agma, .ref agnd, .ref agre, .ref agse, .ref aglv, .ref agal, .ref agds, .ref agno, .ref agna])), (agbi, .inl (cI, 60, .inl gbi)), (agab, .inl (cI, 32, .inl gab)), (aghv, .inl (cI, 1920, .inl ghv)), (agic, .inl (cI, 3600, .inl gic)), (agbe, .inl (cI, 3600, .inl gbe)), (agnd, .inl (cI, 60, .inl (u.2.1))), (agre, .inl (cJ, 60, .inr (.inl (u.2.2.1)))), (agse, .inl (cI, 60, .inl (u.2.2.2.1))), (aglv, .inl (cI, 60, .inl (u.2.2.2.2.1))), (agal, .inl (cI, 32, .inl (u.2.2.2.2.2)))] t.heap ∧ va_K (dC, dI) vwCl [(cI, .int), (cJ, .long)] t ∧ va_D A [(h0, .inr (4, [.int (u.1), .int xnv, .int xna, .ref agbi, .ref agab, .int xtl, .ref aghv, .ref agic, .ref agbe, .int xmk, .ref agmt, .ref agmv, .ref agma, .ref agnd, .ref agre, .ref agse, .ref aglv, .ref agal, .ref agds, .ref agno, .ref agna])), (agbi, .inl (cI, 60, .inl gbi)), (agab, .inl (cI, 32, .inl gab)), (aghv, .inl (cI, 1920, .inl ghv)), (agic, .inl (cI, 3600, .inl gic)), (agbe, .inl (cI, 3600, .inl gbe)), (agnd, .inl (cI, 60, .inl (u.2.1))), (agre, .inl (cJ, 60, .inr (.inl (u.2.2.1)))), (agse, .inl (cI, 60, .inl (u.2.2.2.1))), (aglv, .inl (cI, 60, .inl (u.2.2.2.2.1))), (agal, .inl (cI, 32, .inl (u.2.2.2.2.2)))]) A) (List.toArray [.ref h0, .int p1, .int p2]) s 0 0 A) (F0 m 15 ls [])) (fun (x3 : Int32) (x4 : Int32) (xth : Int32) (gnd : Nat → Int32) (gre : Nat → Int64) (gse : Nat → Int32) (glv : Nat → Int32) (gal : Nat → Int32) => ∀ (H : Heap) (locs : List Loc) (ls : Array Slot), va_P (dC, dI) vwCl [(h0, .inr (4, [.int xth, .int xnv, .int xna, .ref agbi, .ref agab, .int xtl, .ref aghv, .ref agic, .ref agbe, .int xmk, .ref agmt, .ref agmv, .ref agma, .ref agnd, .ref agre, .ref agse, .ref aglv, .ref agal, .ref agds, .ref agno, .ref agna])), (agbi, .inl (cI, 60, .inl gbi)), (agab, .inl (cI, 32, .inl gab)), (aghv, .inl (cI, 1920, .inl ghv)), (agic, .inl (cI, 3600, .inl gic)), (agbe, .inl (cI, 3600, .inl gbe)), (agnd, .inl (cI, 60, .inl gnd)), (agre, .inl (cJ, 60, .inr (.inl gre))), (agse, .inl (cI, 60, .inl gse)), (aglv, .inl (cI, 60, .inl glv)), (agal, .inl (cI, 32, .inl gal))] H → va_D A [(h0, .inr (4, [.int xth, .int xnv, .int xna, .ref agbi, .ref agab, .int xtl, .ref aghv, .ref agic, .ref agbe, .int xmk, .ref agmt, .ref agmv, .ref agma, .ref agnd, .ref agre, .ref agse, .ref aglv, .ref agal, .ref agds, .ref agno, .ref agna])), (agbi, .inl (cI, 60, .inl gbi)), (agab, .inl (cI, 32, .inl gab)), (aghv, .inl (cI, 1920, .inl ghv)), (agic, .inl (cI, 3600, .inl gic)), (agbe, .inl (cI, 3600, .inl gbe)), (agnd, .inl (cI, 60, .inl gnd)), (agre, .inl (cJ, 60, .inr (.inl gre))), (agse, .inl (cI, 60, .inl gse)), (aglv, .inl (cI, 60, .inl glv)), (agal, .inl (cI, 32, .inl gal))] → va_S A s.heap H locs → lv_has ls 5 [(0, .ref h0), (1, .int p1), (2, .int p2), (3, .int x3), (4, .int x4)] → W p l e (headSpec wsX4_ofAtom ({ frames := 2, cells := 0, slots := 0, locals := 44 })).room s m (List.toArray [.ref h0, .int p1, .int p2]) below meth c H locs 0 0 (MQ below (va_Qi (fun (r : Int32) (u : Int32 × (Nat → Int32) × (Nat → Int64) × (Nat → Int32) × (Nat → Int32) × (Nat → Int32)) => post r (u.1) (u.2.1) (u.2.2.1) (u.2.2.2.1) (u.2.2.2.2.1) (u.2.2.2.2.2)) (fun (u : Int32 × (Nat → Int32) × (Nat → Int64) × (Nat → Int32) × (Nat → Int32) × (Nat → Int32)) (t : State) => va_P (dC, dI) vwCl [(h0, .inr (4, [.int (u.1), .int xnv, .int xna, .ref agbi, .ref agab, .int xtl, .ref aghv, .ref agic, .ref agbe, .int xmk, .ref agmt, .ref agmv, .ref agma, .ref agnd, .ref agre, .ref agse, .ref aglv, .ref agal, .ref agds, .ref agno, .ref agna])), (agbi, .inl (cI, 60, .inl gbi)), (agab, .inl (cI, 32, .inl gab)), (aghv, .inl (cI, 1920, .inl ghv)), (agic, .inl (cI, 3600, .inl gic)), (agbe, .inl (cI, 3600, .inl gbe)), (agnd, .inl (cI, 60, .inl (u.2.1))), (agre, .inl (cJ, 60, .inr (.inl (u.2.2.1)))), (agse, .inl (cI, 60, .inl (u.2.2.2.1))), (aglv, .inl (cI, 60, .inl (u.2.2.2.2.1))), (agal, .inl (cI, 32, .inl (u.2.2.2.2.2)))] t.heap ∧ va_K (dC, dI) vwCl [(cI, .int), (cJ, .long)] t ∧ va_D A [(h0, .inr (4, [.int (u.1), .int xnv, .int xna, .ref agbi, .ref agab, .int xtl, .ref aghv, .ref agic, .ref agbe, .int xmk, .ref agmt, .ref agmv, .ref agma, .ref agnd, .ref agre, .ref agse, .ref aglv, .ref agal, .ref agds, .ref agno, .ref agna])), (agbi, .inl (cI, 60, .inl gbi)), (agab, .inl (cI, 32, .inl gab)), (aghv, .inl (cI, 1920, .inl ghv)), (agic, .inl (cI, 3600, .inl gic)), (agbe, .inl (cI, 3600, .inl gbe)), (agnd, .inl (cI, 60, .inl (u.2.1))), (agre, .inl (cJ, 60, .inr (.inl (u.2.2.1)))), (agse, .inl (cI, 60, .inl (u.2.2.2.1))), (aglv, .inl (cI, 60, .inl (u.2.2.2.2.1))), (agal, .inl (cI, 32, .inl (u.2.2.2.2.2)))]) A) (List.toArray [.ref h0, .int p1, .int p2]) s 0 0 A) (F0 m 24 ls [])) ?_ ?_ ?_
  · intro xth gnd gre gse glv gal ht H locs ls hP hD hS hl
    refine lv_aload_n hx hb dX4_ofAtom_15 rfl (lv_at hl 0 rfl) ?_
    have hPc := hP.sub (ws' := [(h0, .inr (4, [.int xth, .int xnv, .int xna, .ref agbi, .ref agab, .int xtl, .ref aghv, .ref agic, .ref agbe, .int xmk, .ref agmt, .ref agmv, .ref agma, .ref agnd, .ref agre, .ref agse, .ref aglv, .ref agal, .ref agds, .ref agno, .ref agna])), (agbi, .inl (cI, 60, .inl gbi)), (agab, .inl (cI, 32, .inl gab)), (aghv, .inl (cI, 1920, .inl ghv)), (agic, .inl (cI, 3600, .inl gic)), (agbe, .inl (cI, 3600, .inl gbe)), (agnd, .inl (cI, 60, .inl gnd)), (agre, .inl (cJ, 60, .inr (.inl gre))), (agse, .inl (cI, 60, .inl gse)), (aglv, .inl (cI, 60, .inl glv)), (agal, .inl (cI, 32, .inl gal))]) [0, 1, 2, 3, 4, 5, 6, 7, 8, 9, 10] rfl
    have hDc := hD.sub (ws' := [(h0, .inr (4, [.int xth, .int xnv, .int xna, .ref agbi, .ref agab, .int xtl, .ref aghv, .ref agic, .ref agbe, .int xmk, .ref agmt, .ref agmv, .ref agma, .ref agnd, .ref agre, .ref agse, .ref aglv, .ref agal, .ref agds, .ref agno, .ref agna])), (agbi, .inl (cI, 60, .inl gbi)), (agab, .inl (cI, 32, .inl gab)), (aghv, .inl (cI, 1920, .inl ghv)), (agic, .inl (cI, 3600, .inl gic)), (agbe, .inl (cI, 3600, .inl gbe)), (agnd, .inl (cI, 60, .inl gnd)), (agre, .inl (cJ, 60, .inr (.inl gre))), (agse, .inl (cI, 60, .inl gse)), (aglv, .inl (cI, 60, .inl glv)), (agal, .inl (cI, 32, .inl gal))]) [0, 1, 2, 3, 4, 5, 6, 7, 8, 9, 10] (by decide) rfl
    have hFc := va_free (wc := [(h0, .inr (4, [.int xth, .int xnv, .int xna, .ref agbi, .ref agab, .int xtl, .ref aghv, .ref agic, .ref agbe, .int xmk, .ref agmt, .ref agmv, .ref agma, .ref agnd, .ref agre, .ref agse, .ref aglv, .ref agal, .ref agds, .ref agno, .ref agna])), (agbi, .inl (cI, 60, .inl gbi)), (agab, .inl (cI, 32, .inl gab)), (aghv, .inl (cI, 1920, .inl ghv)), (agic, .inl (cI, 3600, .inl gic)), (agbe, .inl (cI, 3600, .inl gbe)), (agnd, .inl (cI, 60, .inl gnd)), (agre, .inl (cJ, 60, .inr (.inl gre))), (agse, .inl (cI, 60, .inl gse)), (aglv, .inl (cI, 60, .inl glv)), (agal, .inl (cI, 32, .inl gal))]) hD hS hA [0, 1, 2, 3, 4, 5, 6, 7, 8, 9, 10] rfl
    refine va_callv (va_runV (As := []) (rest := []) ⟨hx, hb, hml, hown, hts⟩ (c_X4_workOut l dC dI cI cJ h0 agbi agab aghv agic agbe agmt agmv agma agnd agre agse aglv agal agds agno agna xth xnv xna xtl xmk gbi gab ghv gic gbe gnd gre gse glv gal H.size _ ht) (cwV 0 hts gX4_ofAtom_X4_workOut rfl rfl rfl (by decide +kernel) ⟨Nat.le_of_ble_eq_true rfl, Nat.le_of_ble_eq_true rfl⟩) ⟨fun a U g mk q => by obtain ⟨q0, q1, qP, qK, qD, qN⟩ := q; exact ⟨q0, q1, qP, va_K.moved (u := U) (U := U.calling g mk a) (Vm.Alike.refl U.vm) qK, qD, nw_same rfl qN⟩, va_recv hK hP (ci := 4) (q0 := 0) rfl rfl, fun U hU hW => ⟨rfl, by rw [hU], by rw [hU]; exact hPc, va_K.moved hW.alike hK, hDc.weaken (fun _ _ _ _ => trivial), nw_warm hW hN⟩⟩ rfl rfl hl.1 rfl (lv_room (Nat.le_of_ble_eq_true rfl)) dX4_ofAtom_16 ⟨Nat.le_of_ble_eq_true rfl, Nat.le_of_ble_eq_true rfl⟩) hS (fun q _ h => hFc q h) hFc (fun u t H1 locs ht9 hvm hw hB hz1 hk1 hS => ?_)
    obtain ⟨gnd_2, gre_3, gse_4, glv_5, gal_6⟩ := u
    obtain ⟨hP1, hK1, hD1⟩ := hB
    rw [ht9] at hP1
    try dsimp only at hw
    replace ht := hw
    obtain ⟨hP, hD⟩ := va_join (wr := []) (w1 := [(h0, .inr (4, [.int xth, .int xnv, .int xna, .ref agbi, .ref agab, .int xtl, .ref aghv, .ref agic, .ref agbe, .int xmk, .ref agmt, .ref agmv, .ref agma, .ref agnd, .ref agre, .ref agse, .ref aglv, .ref agal, .ref agds, .ref agno, .ref agna])), (agbi, .inl (cI, 60, .inl gbi)), (agab, .inl (cI, 32, .inl gab)), (aghv, .inl (cI, 1920, .inl ghv)), (agic, .inl (cI, 3600, .inl gic)), (agbe, .inl (cI, 3600, .inl gbe)), (agnd, .inl (cI, 60, .inl gnd_2)), (agre, .inl (cJ, 60, .inr (.inl gre_3))), (agse, .inl (cI, 60, .inl gse_4)), (aglv, .inl (cI, 60, .inl glv_5)), (agal, .inl (cI, 32, .inl gal_6))]) hP hD [0, 1, 2, 3, 4, 5, 6, 7, 8, 9, 10] [] rfl rfl (by decide) (by decide) hk1 hFc hP1 hD1
    generalize H1 = H at hP hS ⊢
    replace hP : va_P (dC, dI) vwCl [(h0, .inr (4, [.int xth, .int xnv, .int xna, .ref agbi, .ref agab, .int xtl, .ref aghv, .ref agic, .ref agbe, .int xmk, .ref agmt, .ref agmv, .ref agma, .ref agnd, .ref agre, .ref agse, .ref aglv, .ref agal, .ref agds, .ref agno, .ref agna])), (agbi, .inl (cI, 60, .inl gbi)), (agab, .inl (cI, 32, .inl gab)), (aghv, .inl (cI, 1920, .inl ghv)), (agic, .inl (cI, 3600, .inl gic)), (agbe, .inl (cI, 3600, .inl gbe)), (agnd, .inl (cI, 60, .inl gnd_2)), (agre, .inl (cJ, 60, .inr (.inl gre_3))), (agse, .inl (cI, 60, .inl gse_4)), (aglv, .inl (cI, 60, .inl glv_5)), (agal, .inl (cI, 32, .inl gal_6))] H := hP
    replace hD : va_D A [(h0, .inr (4, [.int xth, .int xnv, .int xna, .ref agbi, .ref agab, .int xtl, .ref aghv, .ref agic, .ref agbe, .int xmk, .ref agmt, .ref agmv, .ref agma, .ref agnd, .ref agre, .ref agse, .ref aglv, .ref agal, .ref agds, .ref agno, .ref agna])), (agbi, .inl (cI, 60, .inl gbi)), (agab, .inl (cI, 32, .inl gab)), (aghv, .inl (cI, 1920, .inl ghv)), (agic, .inl (cI, 3600, .inl gic)), (agbe, .inl (cI, 3600, .inl gbe)), (agnd, .inl (cI, 60, .inl gnd_2)), (agre, .inl (cJ, 60, .inr (.inl gre_3))), (agse, .inl (cI, 60, .inl gse_4)), (aglv, .inl (cI, 60, .inl glv_5)), (agal, .inl (cI, 32, .inl gal_6))] := hD
    refine lv_iconst (v := 0) hx hb dX4_ofAtom_19 (by decide) ?_
    refine lv_istore_n (lv' := [(3, .int 0), (0, .ref h0), (1, .int p1), (2, .int p2)]) hx hb dX4_ofAtom_20 rfl hl (by decide) rfl (fun ls hl => ?_)
    refine lv_iconst (v := 0) hx hb dX4_ofAtom_21 (by decide) ?_
    refine lv_istore (lv' := [(4, .int 0), (3, .int 0), (0, .ref h0), (1, .int p1), (2, .int p2)]) hx hb dX4_ofAtom_22 hl (by decide) rfl (fun ls hl => ?_)
    exact ht _ _ _ hP hD hS (lv_sub hl [2, 3, 4, 1, 0] rfl)
  · intro x3 x4 xth gnd gre gse glv gal ht H locs ls hP hD hS hl
    refine lv_iload hx hb dX4_ofAtom_24 (lv_at hl 4 rfl) ?_
    refine lv_aload_n hx hb dX4_ofAtom_26 rfl (lv_at hl 0 rfl) ?_
    refine va_get (D := (dC, dI)) (ci := 4) (v := .int xnv) (C := RX4) (T := TX4) (N := 21) hx hb hts hw0 hown hK hP 0 rfl rfl 1 (by decide) hw1 (fun _ h9 => h9) rfl dX4_ofAtom_27 ?_
    refine lv_icmp_ge (tgt := 53) hx hb dX4_ofAtom_30 (by decide) (fun c7 => ?_) (fun c7 => ?_)
    · replace ht := ht.1 c7
      refine lv_iload_n hx hb dX4_ofAtom_53 rfl (lv_at hl 2 rfl) ?_
      refine lv_if_ne (tgt := 66) hx hb dX4_ofAtom_54 (by decide) (fun c8 => ?_) (fun c8 => ?_)
      · replace ht := ht.1 c8
        refine lv_iload_n hx hb dX4_ofAtom_66 rfl (lv_at hl 2 rfl) ?_
        refine lv_iconst (v := 1) hx hb dX4_ofAtom_67 (by decide) ?_
        refine lv_icmp_ne (tgt := 80) hx hb dX4_ofAtom_68 (by decide) (fun c9 => ?_) (fun c9 => ?_)
        · replace ht := ht.1 c9
          refine lv_iload_n hx hb dX4_ofAtom_80 rfl (lv_at hl 2 rfl) ?_
          refine lv_iconst (v := 2) hx hb dX4_ofAtom_81 (by decide) ?_
          refine lv_icmp_ne (tgt := 89) hx hb dX4_ofAtom_82 (by decide) (fun c10 => ?_) (fun c10 => ?_)
          · replace ht := ht.1 c10
            refine lv_iconst (v := (-1)) hx hb dX4_ofAtom_89 (by decide) ?_
            have hP9 : va_P (dC, dI) vwCl [(h0, .inr (4, [.int xth, .int xnv, .int xna, .ref agbi, .ref agab, .int xtl, .ref aghv, .ref agic, .ref agbe, .int xmk, .ref agmt, .ref agmv, .ref agma, .ref agnd, .ref agre, .ref agse, .ref aglv, .ref agal, .ref agds, .ref agno, .ref agna])), (agbi, .inl (cI, 60, .inl gbi)), (agab, .inl (cI, 32, .inl gab)), (aghv, .inl (cI, 1920, .inl ghv)), (agic, .inl (cI, 3600, .inl gic)), (agbe, .inl (cI, 3600, .inl gbe)), (agnd, .inl (cI, 60, .inl gnd)), (agre, .inl (cJ, 60, .inr (.inl gre))), (agse, .inl (cI, 60, .inl gse)), (aglv, .inl (cI, 60, .inl glv)), (agal, .inl (cI, 32, .inl gal))] _ := hP
            have hD9 : va_D A [(h0, .inr (4, [.int xth, .int xnv, .int xna, .ref agbi, .ref agab, .int xtl, .ref aghv, .ref agic, .ref agbe, .int xmk, .ref agmt, .ref agmv, .ref agma, .ref agnd, .ref agre, .ref agse, .ref aglv, .ref agal, .ref agds, .ref agno, .ref agna])), (agbi, .inl (cI, 60, .inl gbi)), (agab, .inl (cI, 32, .inl gab)), (aghv, .inl (cI, 1920, .inl ghv)), (agic, .inl (cI, 3600, .inl gic)), (agbe, .inl (cI, 3600, .inl gbe)), (agnd, .inl (cI, 60, .inl gnd)), (agre, .inl (cJ, 60, .inr (.inl gre))), (agse, .inl (cI, 60, .inl gse)), (aglv, .inl (cI, 60, .inl glv)), (agal, .inl (cI, 32, .inl gal))] := hD
            exact W.iret (v := (-1)) hx hb hr (fun t ht9 hW => ⟨⟨(-1), (xth, gnd, gre, gse, glv, gal), rfl, ht, by rw [ht9]; exact hP9, va_K.moved hW.alike hK, hD9⟩, hS.F ht9⟩) hS.2.2 dX4_ofAtom_90
          · replace ht := ht.2 c10
            refine lv_iload_n hx hb dX4_ofAtom_85 rfl (lv_at hl 3 rfl) ?_
            refine lv_goto (tgt := 90) hx hb dX4_ofAtom_86 (by decide) ?_
            have hP9 : va_P (dC, dI) vwCl [(h0, .inr (4, [.int xth, .int xnv, .int xna, .ref agbi, .ref agab, .int xtl, .ref aghv, .ref agic, .ref agbe, .int xmk, .ref agmt, .ref agmv, .ref agma, .ref agnd, .ref agre, .ref agse, .ref aglv, .ref agal, .ref agds, .ref agno, .ref agna])), (agbi, .inl (cI, 60, .inl gbi)), (agab, .inl (cI, 32, .inl gab)), (aghv, .inl (cI, 1920, .inl ghv)), (agic, .inl (cI, 3600, .inl gic)), (agbe, .inl (cI, 3600, .inl gbe)), (agnd, .inl (cI, 60, .inl gnd)), (agre, .inl (cJ, 60, .inr (.inl gre))), (agse, .inl (cI, 60, .inl gse)), (aglv, .inl (cI, 60, .inl glv)), (agal, .inl (cI, 32, .inl gal))] _ := hP
            have hD9 : va_D A [(h0, .inr (4, [.int xth, .int xnv, .int xna, .ref agbi, .ref agab, .int xtl, .ref aghv, .ref agic, .ref agbe, .int xmk, .ref agmt, .ref agmv, .ref agma, .ref agnd, .ref agre, .ref agse, .ref aglv, .ref agal, .ref agds, .ref agno, .ref agna])), (agbi, .inl (cI, 60, .inl gbi)), (agab, .inl (cI, 32, .inl gab)), (aghv, .inl (cI, 1920, .inl ghv)), (agic, .inl (cI, 3600, .inl gic)), (agbe, .inl (cI, 3600, .inl gbe)), (agnd, .inl (cI, 60, .inl gnd)), (agre, .inl (cJ, 60, .inr (.inl gre))), (agse, .inl (cI, 60, .inl gse)), (aglv, .inl (cI, 60, .inl glv)), (agal, .inl (cI, 32, .inl gal))] := hD
            exact W.iret (v := x3) hx hb hr (fun t ht9 hW => ⟨⟨x3, (xth, gnd, gre, gse, glv, gal), rfl, ht, by rw [ht9]; exact hP9, va_K.moved hW.alike hK, hD9⟩, hS.F ht9⟩) hS.2.2 dX4_ofAtom_90
        · replace ht := ht.2 c9
          refine lv_aload_n hx hb dX4_ofAtom_71 rfl (lv_at hl 0 rfl) ?_
          refine va_get (D := (dC, dI)) (ci := 4) (v := .ref agab) (C := RX4) (T := TX4) (N := 21) hx hb hts hw0 hown hK hP 0 rfl rfl 4 (by decide) hw2 (fun _ h9 => h9) rfl dX4_ofAtom_72 ?_
          refine lv_iload_n hx hb dX4_ofAtom_75 rfl (lv_at hl 1 rfl) ?_
          obtain ⟨i11, ht⟩ := ht
          refine va_iald hx hb hK hP 2 0 rfl rfl i11 dX4_ofAtom_76 ?_
          refine lv_goto (tgt := 90) hx hb dX4_ofAtom_77 (by decide) ?_
          have hP9 : va_P (dC, dI) vwCl [(h0, .inr (4, [.int xth, .int xnv, .int xna, .ref agbi, .ref agab, .int xtl, .ref aghv, .ref agic, .ref agbe, .int xmk, .ref agmt, .ref agmv, .ref agma, .ref agnd, .ref agre, .ref agse, .ref aglv, .ref agal, .ref agds, .ref agno, .ref agna])), (agbi, .inl (cI, 60, .inl gbi)), (agab, .inl (cI, 32, .inl gab)), (aghv, .inl (cI, 1920, .inl ghv)), (agic, .inl (cI, 3600, .inl gic)), (agbe, .inl (cI, 3600, .inl gbe)), (agnd, .inl (cI, 60, .inl gnd)), (agre, .inl (cJ, 60, .inr (.inl gre))), (agse, .inl (cI, 60, .inl gse)), (aglv, .inl (cI, 60, .inl glv)), (agal, .inl (cI, 32, .inl gal))] _ := hP
          have hD9 : va_D A [(h0, .inr (4, [.int xth, .int xnv, .int xna, .ref agbi, .ref agab, .int xtl, .ref aghv, .ref agic, .ref agbe, .int xmk, .ref agmt, .ref agmv, .ref agma, .ref agnd, .ref agre, .ref agse, .ref aglv, .ref agal, .ref agds, .ref agno, .ref agna])), (agbi, .inl (cI, 60, .inl gbi)), (agab, .inl (cI, 32, .inl gab)), (aghv, .inl (cI, 1920, .inl ghv)), (agic, .inl (cI, 3600, .inl gic)), (agbe, .inl (cI, 3600, .inl gbe)), (agnd, .inl (cI, 60, .inl gnd)), (agre, .inl (cJ, 60, .inr (.inl gre))), (agse, .inl (cI, 60, .inl gse)), (aglv, .inl (cI, 60, .inl glv)), (agal, .inl (cI, 32, .inl gal))] := hD
          exact W.iret (v := (gab p1.toNatClampNeg)) hx hb hr (fun t ht9 hW => ⟨⟨(gab p1.toNatClampNeg), (xth, gnd, gre, gse, glv, gal), rfl, ht, by rw [ht9]; exact hP9, va_K.moved hW.alike hK, hD9⟩, hS.F ht9⟩) hS.2.2 dX4_ofAtom_90
      · replace ht := ht.2 c8
        refine lv_aload_n hx hb dX4_ofAtom_57 rfl (lv_at hl 0 rfl) ?_
        refine va_get (D := (dC, dI)) (ci := 4) (v := .ref agal) (C := RX4) (T := TX4) (N := 21) hx hb hts hw0 hown hK hP 0 rfl rfl 17 (by decide) hw3 (fun _ h9 => h9) rfl dX4_ofAtom_58 ?_
        refine lv_iload_n hx hb dX4_ofAtom_61 rfl (lv_at hl 1 rfl) ?_
        obtain ⟨i12, ht⟩ := ht
        refine va_iald hx hb hK hP 10 0 rfl rfl i12 dX4_ofAtom_62 ?_
        refine lv_goto (tgt := 90) hx hb dX4_ofAtom_63 (by decide) ?_
        have hP9 : va_P (dC, dI) vwCl [(h0, .inr (4, [.int xth, .int xnv, .int xna, .ref agbi, .ref agab, .int xtl, .ref aghv, .ref agic, .ref agbe, .int xmk, .ref agmt, .ref agmv, .ref agma, .ref agnd, .ref agre, .ref agse, .ref aglv, .ref agal, .ref agds, .ref agno, .ref agna])), (agbi, .inl (cI, 60, .inl gbi)), (agab, .inl (cI, 32, .inl gab)), (aghv, .inl (cI, 1920, .inl ghv)), (agic, .inl (cI, 3600, .inl gic)), (agbe, .inl (cI, 3600, .inl gbe)), (agnd, .inl (cI, 60, .inl gnd)), (agre, .inl (cJ, 60, .inr (.inl gre))), (agse, .inl (cI, 60, .inl gse)), (aglv, .inl (cI, 60, .inl glv)), (agal, .inl (cI, 32, .inl gal))] _ := hP
        have hD9 : va_D A [(h0, .inr (4, [.int xth, .int xnv, .int xna, .ref agbi, .ref agab, .int xtl, .ref aghv, .ref agic, .ref agbe, .int xmk, .ref agmt, .ref agmv, .ref agma, .ref agnd, .ref agre, .ref agse, .ref aglv, .ref agal, .ref agds, .ref agno, .ref agna])), (agbi, .inl (cI, 60, .inl gbi)), (agab, .inl (cI, 32, .inl gab)), (aghv, .inl (cI, 1920, .inl ghv)), (agic, .inl (cI, 3600, .inl gic)), (agbe, .inl (cI, 3600, .inl gbe)), (agnd, .inl (cI, 60, .inl gnd)), (agre, .inl (cJ, 60, .inr (.inl gre))), (agse, .inl (cI, 60, .inl gse)), (aglv, .inl (cI, 60, .inl glv)), (agal, .inl (cI, 32, .inl gal))] := hD
        exact W.iret (v := (gal p1.toNatClampNeg)) hx hb hr (fun t ht9 hW => ⟨⟨(gal p1.toNatClampNeg), (xth, gnd, gre, gse, glv, gal), rfl, ht, by rw [ht9]; exact hP9, va_K.moved hW.alike hK, hD9⟩, hS.F ht9⟩) hS.2.2 dX4_ofAtom_90
    · replace ht := ht.2 c7
      refine lv_iload_n hx hb dX4_ofAtom_33 rfl (lv_at hl 3 rfl) ?_
      refine lv_aload_n hx hb dX4_ofAtom_34 rfl (lv_at hl 0 rfl) ?_
      refine va_get (D := (dC, dI)) (ci := 4) (v := .ref agse) (C := RX4) (T := TX4) (N := 21) hx hb hts hw0 hown hK hP 0 rfl rfl 15 (by decide) hw4 (fun _ h9 => h9) rfl dX4_ofAtom_35 ?_
      refine lv_iload hx hb dX4_ofAtom_38 (lv_at hl 4 rfl) ?_
      obtain ⟨i13, ht⟩ := ht
      refine va_iald hx hb hK hP 8 0 rfl rfl i13 dX4_ofAtom_40 ?_
      refine lv_iload_n hx hb dX4_ofAtom_41 rfl (lv_at hl 1 rfl) ?_
      refine lv_ishr hx hb dX4_ofAtom_42 ?_
      refine lv_iconst (v := 1) hx hb dX4_ofAtom_43 (by decide) ?_
      refine lv_iand hx hb dX4_ofAtom_44 ?_
      refine lv_iadd hx hb dX4_ofAtom_45 ?_
      refine lv_topi (fun y14 ey14 => ?_)
      replace ht := ht y14 ey14
      refine lv_istore_n (lv' := [(3, .int y14), (0, .ref h0), (1, .int p1), (2, .int p2), (4, .int x4)]) hx hb dX4_ofAtom_46 rfl hl (by decide) rfl (fun ls hl => ?_)
      obtain ⟨y15, ey15⟩ : ∃ y : Int32, y = x4 + 1 := ⟨_, rfl⟩
      replace ht := ht y15 ey15
      refine lv_iinc (v := y15) (lv' := [(4, .int y15), (3, .int y14), (0, .ref h0), (1, .int p1), (2, .int p2)]) hx hb dX4_ofAtom_47 hl (k := 4) rfl (by rw [ey15]; rfl) (by decide) rfl (fun ls hl => ?_)
      refine lv_goto (tgt := 24) hx hb dX4_ofAtom_50 (by decide) ?_
      exact ht _ _ _ hP hD hS (lv_sub hl [2, 3, 4, 1, 0] rfl)
  · intro ht
    refine lv_aload_n hx hb dX4_ofAtom_0 rfl (lv_at hl 0 rfl) ?_
    refine lv_aload_n hx hb dX4_ofAtom_1 rfl (lv_at hl 0 rfl) ?_
    refine lv_iload_n hx hb dX4_ofAtom_2 rfl (lv_at hl 1 rfl) ?_
    have hPc := hP.sub (ws' := [(h0, .inr (4, [.int xth, .int xnv, .int xna, .ref agbi, .ref agab, .int xtl, .ref aghv, .ref agic, .ref agbe, .int xmk, .ref agmt, .ref agmv, .ref agma, .ref agnd, .ref agre, .ref agse, .ref aglv, .ref agal, .ref agds, .ref agno, .ref agna]))]) [0] rfl
    have hDc := hD.sub (ws' := [(h0, .inr (4, [.int xth, .int xnv, .int xna, .ref agbi, .ref agab, .int xtl, .ref aghv, .ref agic, .ref agbe, .int xmk, .ref agmt, .ref agmv, .ref agma, .ref agnd, .ref agre, .ref agse, .ref aglv, .ref agal, .ref agds, .ref agno, .ref agna]))]) [0] (by decide) rfl
    have hFc := va_free (wc := [(h0, .inr (4, [.int xth, .int xnv, .int xna, .ref agbi, .ref agab, .int xtl, .ref aghv, .ref agic, .ref agbe, .int xmk, .ref agmt, .ref agmv, .ref agma, .ref agnd, .ref agre, .ref agse, .ref aglv, .ref agal, .ref agds, .ref agno, .ref agna]))]) hD hS hA [0] rfl
    refine va_calli (va_runV (As := [.int p1]) (rest := [.ref h0]) ⟨hx, hb, hml, hown, hts⟩ (c_X4_isAtom l dC dI cI cJ h0 agbi agab aghv agic agbe agmt agmv agma agnd agre agse aglv agal agds agno agna xth xnv xna xtl xmk s.heap.size p1 _ ht) (cwV 1 hts gX4_ofAtom_X4_isAtom rfl rfl rfl (by decide +kernel) ⟨Nat.le_of_ble_eq_true rfl, Nat.le_of_ble_eq_true rfl⟩) ⟨fun a U g mk q => by obtain ⟨q0, q1, qP, qK, qD, qN⟩ := q; exact ⟨q0, q1, qP, va_K.moved (u := U) (U := U.calling g mk a) (Vm.Alike.refl U.vm) qK, qD, nw_same rfl qN⟩, va_recv hK hP (ci := 4) (q0 := 0) rfl rfl, fun U hU hW => ⟨rfl, by rw [hU], by rw [hU]; exact hPc, va_K.moved hW.alike hK, hDc.weaken (fun _ _ _ _ => trivial), nw_warm hW hN⟩⟩ rfl rfl hl.1 rfl (lv_room (Nat.le_of_ble_eq_true rfl)) dX4_ofAtom_3 ⟨Nat.le_of_ble_eq_true rfl, Nat.le_of_ble_eq_true rfl⟩) hS (fun q _ h => hFc q h) hFc (fun r16 u t H1 locs ht9 hvm hw hB hz1 hk1 hS => ?_)
    obtain ⟨hP1, hK1, hD1⟩ := hB
    rw [ht9] at hP1
    try dsimp only at hw
    replace ht := hw
    obtain ⟨hP, hD⟩ := va_join (wr := [(agbi, .inl (cI, 60, .inl gbi)), (agab, .inl (cI, 32, .inl gab)), (aghv, .inl (cI, 1920, .inl ghv)), (agic, .inl (cI, 3600, .inl gic)), (agbe, .inl (cI, 3600, .inl gbe)), (agnd, .inl (cI, 60, .inl gnd)), (agre, .inl (cJ, 60, .inr (.inl gre))), (agse, .inl (cI, 60, .inl gse)), (aglv, .inl (cI, 60, .inl glv)), (agal, .inl (cI, 32, .inl gal))]) (w1 := [(h0, .inr (4, [.int xth, .int xnv, .int xna, .ref agbi, .ref agab, .int xtl, .ref aghv, .ref agic, .ref agbe, .int xmk, .ref agmt, .ref agmv, .ref agma, .ref agnd, .ref agre, .ref agse, .ref aglv, .ref agal, .ref agds, .ref agno, .ref agna]))]) hP hD [0] [1, 2, 3, 4, 5, 6, 7, 8, 9, 10] rfl rfl (by decide) (by decide) hk1 hFc hP1 hD1
    generalize H1 = H at hP hS ⊢
    replace hP : va_P (dC, dI) vwCl [(agbi, .inl (cI, 60, .inl gbi)), (agab, .inl (cI, 32, .inl gab)), (aghv, .inl (cI, 1920, .inl ghv)), (agic, .inl (cI, 3600, .inl gic)), (agbe, .inl (cI, 3600, .inl gbe)), (agnd, .inl (cI, 60, .inl gnd)), (agre, .inl (cJ, 60, .inr (.inl gre))), (agse, .inl (cI, 60, .inl gse)), (aglv, .inl (cI, 60, .inl glv)), (agal, .inl (cI, 32, .inl gal)), (h0, .inr (4, [.int xth, .int xnv, .int xna, .ref agbi, .ref agab, .int xtl, .ref aghv, .ref agic, .ref agbe, .int xmk, .ref agmt, .ref agmv, .ref agma, .ref agnd, .ref agre, .ref agse, .ref aglv, .ref agal, .ref agds, .ref agno, .ref agna]))] H := hP
    replace hD : va_D A [(agbi, .inl (cI, 60, .inl gbi)), (agab, .inl (cI, 32, .inl gab)), (aghv, .inl (cI, 1920, .inl ghv)), (agic, .inl (cI, 3600, .inl gic)), (agbe, .inl (cI, 3600, .inl gbe)), (agnd, .inl (cI, 60, .inl gnd)), (agre, .inl (cJ, 60, .inr (.inl gre))), (agse, .inl (cI, 60, .inl gse)), (aglv, .inl (cI, 60, .inl glv)), (agal, .inl (cI, 32, .inl gal)), (h0, .inr (4, [.int xth, .int xnv, .int xna, .ref agbi, .ref agab, .int xtl, .ref aghv, .ref agic, .ref agbe, .int xmk, .ref agmt, .ref agmv, .ref agma, .ref agnd, .ref agre, .ref agse, .ref aglv, .ref agal, .ref agds, .ref agno, .ref agna]))] := hD
    refine lv_iconst (v := 1) hx hb dX4_ofAtom_6 (by decide) ?_
    have hPc := hP.sub (ws' := [(h0, .inr (4, [.int xth, .int xnv, .int xna, .ref agbi, .ref agab, .int xtl, .ref aghv, .ref agic, .ref agbe, .int xmk, .ref agmt, .ref agmv, .ref agma, .ref agnd, .ref agre, .ref agse, .ref aglv, .ref agal, .ref agds, .ref agno, .ref agna]))]) [10] rfl
    have hDc := hD.sub (ws' := [(h0, .inr (4, [.int xth, .int xnv, .int xna, .ref agbi, .ref agab, .int xtl, .ref aghv, .ref agic, .ref agbe, .int xmk, .ref agmt, .ref agmv, .ref agma, .ref agnd, .ref agre, .ref agse, .ref aglv, .ref agal, .ref agds, .ref agno, .ref agna]))]) [10] (by decide) rfl
    have hFc := va_free (wc := [(h0, .inr (4, [.int xth, .int xnv, .int xna, .ref agbi, .ref agab, .int xtl, .ref aghv, .ref agic, .ref agbe, .int xmk, .ref agmt, .ref agmv, .ref agma, .ref agnd, .ref agre, .ref agse, .ref aglv, .ref agal, .ref agds, .ref agno, .ref agna]))]) hD hS hA [10] rfl
    refine va_calli (va_runV (As := [.int r16, .int 1]) (rest := []) ⟨hx, hb, hml, hown, hts⟩ (c_X4_goes l dC dI cI cJ h0 agbi agab aghv agic agbe agmt agmv agma agnd agre agse aglv agal agds agno agna xth xnv xna xtl xmk H.size r16 1 _ ht) (cwV 2 hts gX4_ofAtom_X4_goes rfl rfl rfl (by decide +kernel) ⟨Nat.le_of_ble_eq_true rfl, Nat.le_of_ble_eq_true rfl⟩) ⟨fun a U g mk q => by obtain ⟨q0, q1, qP, qK, qD, qN⟩ := q; exact ⟨q0, q1, qP, va_K.moved (u := U) (U := U.calling g mk a) (Vm.Alike.refl U.vm) qK, qD, nw_same rfl qN⟩, va_recv hK hP (ci := 4) (q0 := 10) rfl rfl, fun U hU hW => ⟨rfl, by rw [hU], by rw [hU]; exact hPc, va_K.moved hW.alike hK, hDc.weaken (fun _ _ _ _ => trivial), nw_warm hW hN⟩⟩ rfl rfl hl.1 rfl (lv_room (Nat.le_of_ble_eq_true rfl)) dX4_ofAtom_7 ⟨Nat.le_of_ble_eq_true rfl, Nat.le_of_ble_eq_true rfl⟩) hS (fun q _ h => hFc q h) hFc (fun r17 u t H1 locs ht9 hvm hw hB hz1 hk1 hS => ?_)
    obtain ⟨xth_18, rfl⟩ : ∃ z, z = u := ⟨_, rfl⟩
    obtain ⟨hP1, hK1, hD1⟩ := hB
    rw [ht9] at hP1
    try dsimp only at hw
    replace ht := hw
    obtain ⟨hP, hD⟩ := va_join (wr := [(agbi, .inl (cI, 60, .inl gbi)), (agab, .inl (cI, 32, .inl gab)), (aghv, .inl (cI, 1920, .inl ghv)), (agic, .inl (cI, 3600, .inl gic)), (agbe, .inl (cI, 3600, .inl gbe)), (agnd, .inl (cI, 60, .inl gnd)), (agre, .inl (cJ, 60, .inr (.inl gre))), (agse, .inl (cI, 60, .inl gse)), (aglv, .inl (cI, 60, .inl glv)), (agal, .inl (cI, 32, .inl gal))]) (w1 := [(h0, .inr (4, [.int xth_18, .int xnv, .int xna, .ref agbi, .ref agab, .int xtl, .ref aghv, .ref agic, .ref agbe, .int xmk, .ref agmt, .ref agmv, .ref agma, .ref agnd, .ref agre, .ref agse, .ref aglv, .ref agal, .ref agds, .ref agno, .ref agna]))]) hP hD [10] [0, 1, 2, 3, 4, 5, 6, 7, 8, 9] rfl rfl (by decide) (by decide) hk1 hFc hP1 hD1
    generalize H1 = H at hP hS ⊢
    replace hP : va_P (dC, dI) vwCl [(agbi, .inl (cI, 60, .inl gbi)), (agab, .inl (cI, 32, .inl gab)), (aghv, .inl (cI, 1920, .inl ghv)), (agic, .inl (cI, 3600, .inl gic)), (agbe, .inl (cI, 3600, .inl gbe)), (agnd, .inl (cI, 60, .inl gnd)), (agre, .inl (cJ, 60, .inr (.inl gre))), (agse, .inl (cI, 60, .inl gse)), (aglv, .inl (cI, 60, .inl glv)), (agal, .inl (cI, 32, .inl gal)), (h0, .inr (4, [.int xth_18, .int xnv, .int xna, .ref agbi, .ref agab, .int xtl, .ref aghv, .ref agic, .ref agbe, .int xmk, .ref agmt, .ref agmv, .ref agma, .ref agnd, .ref agre, .ref agse, .ref aglv, .ref agal, .ref agds, .ref agno, .ref agna]))] H := hP
    replace hD : va_D A [(agbi, .inl (cI, 60, .inl gbi)), (agab, .inl (cI, 32, .inl gab)), (aghv, .inl (cI, 1920, .inl ghv)), (agic, .inl (cI, 3600, .inl gic)), (agbe, .inl (cI, 3600, .inl gbe)), (agnd, .inl (cI, 60, .inl gnd)), (agre, .inl (cJ, 60, .inr (.inl gre))), (agse, .inl (cI, 60, .inl gse)), (aglv, .inl (cI, 60, .inl glv)), (agal, .inl (cI, 32, .inl gal)), (h0, .inr (4, [.int xth_18, .int xnv, .int xna, .ref agbi, .ref agab, .int xtl, .ref aghv, .ref agic, .ref agbe, .int xmk, .ref agmt, .ref agmv, .ref agma, .ref agnd, .ref agre, .ref agse, .ref aglv, .ref agal, .ref agds, .ref agno, .ref agna]))] := hD
    refine lv_if_ne (tgt := 15) hx hb dX4_ofAtom_10 (by decide) (fun c19 => ?_) (fun c19 => ?_)
    · replace ht := ht.1 c19
      exact ht _ _ _ (hP.sub [10, 0, 1, 2, 3, 4, 5, 6, 7, 8, 9] rfl) (hD.sub [10, 0, 1, 2, 3, 4, 5, 6, 7, 8, 9] (by decide) rfl) hS (lv_sub hl [0, 1, 2] rfl)
    · replace ht := ht.2 c19
      refine lv_iconst (v := 0) hx hb dX4_ofAtom_13 (by decide) ?_
      have hP9 : va_P (dC, dI) vwCl [(h0, .inr (4, [.int xth_18, .int xnv, .int xna, .ref agbi, .ref agab, .int xtl, .ref aghv, .ref agic, .ref agbe, .int xmk, .ref agmt, .ref agmv, .ref agma, .ref agnd, .ref agre, .ref agse, .ref aglv, .ref agal, .ref agds, .ref agno, .ref agna])), (agbi, .inl (cI, 60, .inl gbi)), (agab, .inl (cI, 32, .inl gab)), (aghv, .inl (cI, 1920, .inl ghv)), (agic, .inl (cI, 3600, .inl gic)), (agbe, .inl (cI, 3600, .inl gbe)), (agnd, .inl (cI, 60, .inl gnd)), (agre, .inl (cJ, 60, .inr (.inl gre))), (agse, .inl (cI, 60, .inl gse)), (aglv, .inl (cI, 60, .inl glv)), (agal, .inl (cI, 32, .inl gal))] _ := (hP.sub [10, 0, 1, 2, 3, 4, 5, 6, 7, 8, 9] rfl)
      have hD9 : va_D A [(h0, .inr (4, [.int xth_18, .int xnv, .int xna, .ref agbi, .ref agab, .int xtl, .ref aghv, .ref agic, .ref agbe, .int xmk, .ref agmt, .ref agmv, .ref agma, .ref agnd, .ref agre, .ref agse, .ref aglv, .ref agal, .ref agds, .ref agno, .ref agna])), (agbi, .inl (cI, 60, .inl gbi)), (agab, .inl (cI, 32, .inl gab)), (aghv, .inl (cI, 1920, .inl ghv)), (agic, .inl (cI, 3600, .inl gic)), (agbe, .inl (cI, 3600, .inl gbe)), (agnd, .inl (cI, 60, .inl gnd)), (agre, .inl (cJ, 60, .inr (.inl gre))), (agse, .inl (cI, 60, .inl gse)), (aglv, .inl (cI, 60, .inl glv)), (agal, .inl (cI, 32, .inl gal))] := (hD.sub [10, 0, 1, 2, 3, 4, 5, 6, 7, 8, 9] (by decide) rfl)
      exact W.iret (v := 0) hx hb hr (fun t ht9 hW => ⟨⟨0, (xth_18, gnd, gre, gse, glv, gal), rfl, ht, by rw [ht9]; exact hP9, va_K.moved hW.alike hK, hD9⟩, hS.F ht9⟩) hS.2.2 dX4_ofAtom_14
set_option maxHeartbeats 4000000 in
set_option maxRecDepth 100000 in
theorem c_X4_leads (l : Launch) (dC : Nat → ClassId) (dI : Nat → Nat → Nat) (cI cJ : ClassId) (h0 : Nat) (agbi : Nat) (agab : Nat) (aghv : Nat) (agic : Nat) (agbe : Nat) (agmt : Nat) (agmv : Nat) (agma : Nat) (agnd : Nat) (agre : Nat) (agse : Nat) (aglv : Nat) (agal : Nat) (agds : Nat) (agno : Nat) (agna : Nat) (xth : Int32) (xnv : Int32) (xna : Int32) (xtl : Int32) (xmk : Int32) (gic : Nat → Int32) (gbe : Nat → Int32) (sz : Nat) (p1 : Int32) (p2 : Int32) (post : Int32 → Prop) (hsp : S_X4_leads p1 p2 gic gbe post) : Met l yX4_leads wsX4_leads ({ frames := 0, cells := 0, slots := 0, locals := 0 }) (va_Pc [.ref h0, .int p1, .int p2] (fun U => U.heap.size = sz ∧ va_P (dC, dI) vwCl [(h0, .inr (4, [.int xth, .int xnv, .int xna, .ref agbi, .ref agab, .int xtl, .ref aghv, .ref agic, .ref agbe, .int xmk, .ref agmt, .ref agmv, .ref agma, .ref agnd, .ref agre, .ref agse, .ref aglv, .ref agal, .ref agds, .ref agno, .ref agna])), (agic, .inl (cI, 3600, .inl gic)), (agbe, .inl (cI, 3600, .inl gbe))] U.heap ∧ va_K (dC, dI) vwCl [(cI, .int), (cJ, .long)] U ∧ va_D (fun _ => True) [(h0, .inr (4, [.int xth, .int xnv, .int xna, .ref agbi, .ref agab, .int xtl, .ref aghv, .ref agic, .ref agbe, .int xmk, .ref agmt, .ref agmv, .ref agma, .ref agnd, .ref agre, .ref agse, .ref aglv, .ref agal, .ref agds, .ref agno, .ref agna])), (agic, .inl (cI, 3600, .inl gic)), (agbe, .inl (cI, 3600, .inl gbe))] ∧ nw U)) (va_Qi (fun (r : Int32) (u : Unit) => post r) (fun (u : Unit) (t : State) => va_P (dC, dI) vwCl [(h0, .inr (4, [.int xth, .int xnv, .int xna, .ref agbi, .ref agab, .int xtl, .ref aghv, .ref agic, .ref agbe, .int xmk, .ref agmt, .ref agmv, .ref agma, .ref agnd, .ref agre, .ref agse, .ref aglv, .ref agal, .ref agds, .ref agno, .ref agna])), (agic, .inl (cI, 3600, .inl gic)), (agbe, .inl (cI, 3600, .inl gbe))] t.heap ∧ va_K (dC, dI) vwCl [(cI, .int), (cJ, .long)] t ∧ va_D (va_A [(h0, .inr (4, [.int xth, .int xnv, .int xna, .ref agbi, .ref agab, .int xtl, .ref aghv, .ref agic, .ref agbe, .int xmk, .ref agmt, .ref agmv, .ref agma, .ref agnd, .ref agre, .ref agse, .ref aglv, .ref agal, .ref agds, .ref agno, .ref agna])), (agic, .inl (cI, 3600, .inl gic)), (agbe, .inl (cI, 3600, .inl gbe))] sz) [(h0, .inr (4, [.int xth, .int xnv, .int xna, .ref agbi, .ref agab, .int xtl, .ref aghv, .ref agic, .ref agbe, .int xmk, .ref agmt, .ref agmv, .ref agma, .ref agnd, .ref agre, .ref agse, .ref aglv, .ref agal, .ref agds, .ref agno, .ref agna])), (agic, .inl (cI, 3600, .inl gic)), (agbe, .inl (cI, 3600, .inl gbe))]) (va_A [(h0, .inr (4, [.int xth, .int xnv, .int xna, .ref agbi, .ref agab, .int xtl, .ref aghv, .ref agic, .ref agbe, .int xmk, .ref agmt, .ref agmv, .ref agma, .ref agnd, .ref agre, .ref agse, .ref aglv, .ref agal, .ref agds, .ref agno, .ref agna])), (agic, .inl (cI, 3600, .inl gic)), (agbe, .inl (cI, 3600, .inl gbe))] sz)) 0 0 (va_A [(h0, .inr (4, [.int xth, .int xnv, .int xna, .ref agbi, .ref agab, .int xtl, .ref aghv, .ref agic, .ref agbe, .int xmk, .ref agmt, .ref agmv, .ref agma, .ref agnd, .ref agre, .ref agse, .ref aglv, .ref agal, .ref agds, .ref agno, .ref agna])), (agic, .inl (cI, 3600, .inl gic)), (agbe, .inl (cI, 3600, .inl gbe))] sz) := by
  refine Met.ofW (cc := cX4_leads) (maxL := 3) (ret := (some .boolean)) (by decide) rfl ?_
  intro p e s m args below meth c s₁ B hml hv
  obtain ⟨rfl, hsz, hP, hK, hD0, hN⟩ := hv
  have hx := B.exec
  have hb := B.bytes
  have hr := B.returns
  have hts := atoms_spec (ws := wsX4_leads) B.pre
  have hown : s.vm.findClass RX4 = some m.cls := findClass_of_methodNamed B.named
  have hlocks := B.notSynchronized
  subst hsz
  have hD := hD0.self (sz := s.heap.size)
  generalize hAe : va_A [(h0, .inr (4, [.int xth, .int xnv, .int xna, .ref agbi, .ref agab, .int xtl, .ref aghv, .ref agic, .ref agbe, .int xmk, .ref agmt, .ref agmv, .ref agma, .ref agnd, .ref agre, .ref agse, .ref aglv, .ref agal, .ref agds, .ref agno, .ref agna])), (agic, .inl (cI, 3600, .inl gic)), (agbe, .inl (cI, 3600, .inl gbe))] s.heap.size = A at hD ⊢
  have hA : ∀ q : Nat, s.heap.size ≤ q → A q := fun q h => by rw [← hAe]; exact Or.inr h
  have hS : va_S A s.heap s.heap [] := va_S.rf
  have hl := lv_entry ([.ref h0, .int p1, .int p2]) (n := 3) (Nat.le_of_ble_eq_true rfl)
  rw [lg_entry_eq]
  generalize (lg_sl ([.ref h0, .int p1, .int p2]) ++ List.replicate (3 - (lg_sl ([.ref h0, .int p1, .int p2])).length) Slot.unset).toArray = ls at hl ⊢
  replace hl : lv_has ls 3 [(0, .ref h0), (1, .int p1), (2, .int p2)] := hl
  have hw0 := (show ∀ w ∈ wsX40, w ∈ wsX4_leads from by decide +kernel)
  have hw1 := hts (.fieldLink RX4 19 "EffectNetsModel" "including" "[I") (by decide +kernel)
  have hw2 := hts (.fieldLink RX4 22 "EffectNetsModel" "being" "[I") (by decide +kernel)
  refine hsp _ ?_
  · intro ht
    refine lv_aload_n hx hb dX4_leads_0 rfl (lv_at hl 0 rfl) ?_
    refine va_get (D := (dC, dI)) (ci := 4) (v := .ref agic) (C := RX4) (T := TX4) (N := 21) hx hb hts hw0 hown hK hP 0 rfl rfl 7 (by decide) hw1 (fun _ h9 => h9) rfl dX4_leads_1 ?_
    refine lv_bipush (v := 60) hx hb dX4_leads_4 (by decide) ?_
    refine lv_iload_n hx hb dX4_leads_6 rfl (lv_at hl 1 rfl) ?_
    refine lv_imul hx hb dX4_leads_7 ?_
    refine lv_iload_n hx hb dX4_leads_8 rfl (lv_at hl 2 rfl) ?_
    refine lv_iadd hx hb dX4_leads_9 ?_
    obtain ⟨i1, ht⟩ := ht
    refine va_iald hx hb hK hP 1 0 rfl rfl i1 dX4_leads_10 ?_
    refine lv_if_gt (tgt := 28) hx hb dX4_leads_11 (by decide) (fun c2 => ?_) (fun c2 => ?_)
    · replace ht := ht.1 c2
      refine lv_iconst (v := 1) hx hb dX4_leads_28 (by decide) ?_
      refine lv_goto (tgt := 33) hx hb dX4_leads_29 (by decide) ?_
      have hP9 : va_P (dC, dI) vwCl [(h0, .inr (4, [.int xth, .int xnv, .int xna, .ref agbi, .ref agab, .int xtl, .ref aghv, .ref agic, .ref agbe, .int xmk, .ref agmt, .ref agmv, .ref agma, .ref agnd, .ref agre, .ref agse, .ref aglv, .ref agal, .ref agds, .ref agno, .ref agna])), (agic, .inl (cI, 3600, .inl gic)), (agbe, .inl (cI, 3600, .inl gbe))] _ := hP
      have hD9 : va_D A [(h0, .inr (4, [.int xth, .int xnv, .int xna, .ref agbi, .ref agab, .int xtl, .ref aghv, .ref agic, .ref agbe, .int xmk, .ref agmt, .ref agmv, .ref agma, .ref agnd, .ref agre, .ref agse, .ref aglv, .ref agal, .ref agds, .ref agno, .ref agna])), (agic, .inl (cI, 3600, .inl gic)), (agbe, .inl (cI, 3600, .inl gbe))] := hD
      exact W.zret (v := 1) hx hb hr rfl (fun t ht9 hW => ⟨⟨1, (), rfl, ht, by rw [ht9]; exact hP9, va_K.moved hW.alike hK, hD9⟩, hS.F ht9⟩) hS.2.2 dX4_leads_33
    · replace ht := ht.2 c2
      refine lv_aload_n hx hb dX4_leads_14 rfl (lv_at hl 0 rfl) ?_
      refine va_get (D := (dC, dI)) (ci := 4) (v := .ref agbe) (C := RX4) (T := TX4) (N := 21) hx hb hts hw0 hown hK hP 0 rfl rfl 8 (by decide) hw2 (fun _ h9 => h9) rfl dX4_leads_15 ?_
      refine lv_bipush (v := 60) hx hb dX4_leads_18 (by decide) ?_
      refine lv_iload_n hx hb dX4_leads_20 rfl (lv_at hl 1 rfl) ?_
      refine lv_imul hx hb dX4_leads_21 ?_
      refine lv_iload_n hx hb dX4_leads_22 rfl (lv_at hl 2 rfl) ?_
      refine lv_iadd hx hb dX4_leads_23 ?_
      refine va_iald hx hb hK hP 2 0 rfl rfl i1 dX4_leads_24 ?_
      refine lv_if_le (tgt := 32) hx hb dX4_leads_25 (by decide) (fun c3 => ?_) (fun c3 => ?_)
      · replace ht := ht.1 c3
        refine lv_iconst (v := 0) hx hb dX4_leads_32 (by decide) ?_
        have hP9 : va_P (dC, dI) vwCl [(h0, .inr (4, [.int xth, .int xnv, .int xna, .ref agbi, .ref agab, .int xtl, .ref aghv, .ref agic, .ref agbe, .int xmk, .ref agmt, .ref agmv, .ref agma, .ref agnd, .ref agre, .ref agse, .ref aglv, .ref agal, .ref agds, .ref agno, .ref agna])), (agic, .inl (cI, 3600, .inl gic)), (agbe, .inl (cI, 3600, .inl gbe))] _ := hP
        have hD9 : va_D A [(h0, .inr (4, [.int xth, .int xnv, .int xna, .ref agbi, .ref agab, .int xtl, .ref aghv, .ref agic, .ref agbe, .int xmk, .ref agmt, .ref agmv, .ref agma, .ref agnd, .ref agre, .ref agse, .ref aglv, .ref agal, .ref agds, .ref agno, .ref agna])), (agic, .inl (cI, 3600, .inl gic)), (agbe, .inl (cI, 3600, .inl gbe))] := hD
        exact W.zret (v := 0) hx hb hr rfl (fun t ht9 hW => ⟨⟨0, (), rfl, ht, by rw [ht9]; exact hP9, va_K.moved hW.alike hK, hD9⟩, hS.F ht9⟩) hS.2.2 dX4_leads_33
      · replace ht := ht.2 c3
        refine lv_iconst (v := 1) hx hb dX4_leads_28 (by decide) ?_
        refine lv_goto (tgt := 33) hx hb dX4_leads_29 (by decide) ?_
        have hP9 : va_P (dC, dI) vwCl [(h0, .inr (4, [.int xth, .int xnv, .int xna, .ref agbi, .ref agab, .int xtl, .ref aghv, .ref agic, .ref agbe, .int xmk, .ref agmt, .ref agmv, .ref agma, .ref agnd, .ref agre, .ref agse, .ref aglv, .ref agal, .ref agds, .ref agno, .ref agna])), (agic, .inl (cI, 3600, .inl gic)), (agbe, .inl (cI, 3600, .inl gbe))] _ := hP
        have hD9 : va_D A [(h0, .inr (4, [.int xth, .int xnv, .int xna, .ref agbi, .ref agab, .int xtl, .ref aghv, .ref agic, .ref agbe, .int xmk, .ref agmt, .ref agmv, .ref agma, .ref agnd, .ref agre, .ref agse, .ref aglv, .ref agal, .ref agds, .ref agno, .ref agna])), (agic, .inl (cI, 3600, .inl gic)), (agbe, .inl (cI, 3600, .inl gbe))] := hD
        exact W.zret (v := 1) hx hb hr rfl (fun t ht9 hW => ⟨⟨1, (), rfl, ht, by rw [ht9]; exact hP9, va_K.moved hW.alike hK, hD9⟩, hS.F ht9⟩) hS.2.2 dX4_leads_33
set_option maxHeartbeats 4000000 in
set_option maxRecDepth 100000 in
theorem c_X4_findDistances (l : Launch) (dC : Nat → ClassId) (dI : Nat → Nat → Nat) (cI cJ : ClassId) (h0 : Nat) (agbi : Nat) (agab : Nat) (aghv : Nat) (agic : Nat) (agbe : Nat) (agmt : Nat) (agmv : Nat) (agma : Nat) (agnd : Nat) (agre : Nat) (agse : Nat) (aglv : Nat) (agal : Nat) (agds : Nat) (agno : Nat) (agna : Nat) (xth : Int32) (xnv : Int32) (xna : Int32) (xtl : Int32) (xmk : Int32) (ghv : Nat → Int32) (gic : Nat → Int32) (gbe : Nat → Int32) (gds : Nat → Int32) (sz : Nat) (p1 : Int32) (post : (Nat → Int32) → Prop) (hsp : S_X4_findDistances p1 xnv ghv gic gbe gds post) : Met l yX4_findDistances wsX4_findDistances ({ frames := 1, cells := 0, slots := 0, locals := 22 }) (va_Pc [.ref h0, .int p1] (fun U => U.heap.size = sz ∧ va_P (dC, dI) vwCl [(h0, .inr (4, [.int xth, .int xnv, .int xna, .ref agbi, .ref agab, .int xtl, .ref aghv, .ref agic, .ref agbe, .int xmk, .ref agmt, .ref agmv, .ref agma, .ref agnd, .ref agre, .ref agse, .ref aglv, .ref agal, .ref agds, .ref agno, .ref agna])), (aghv, .inl (cI, 1920, .inl ghv)), (agic, .inl (cI, 3600, .inl gic)), (agbe, .inl (cI, 3600, .inl gbe)), (agds, .inl (cI, 60, .inl gds))] U.heap ∧ va_K (dC, dI) vwCl [(cI, .int), (cJ, .long)] U ∧ va_D (fun _ => True) [(h0, .inr (4, [.int xth, .int xnv, .int xna, .ref agbi, .ref agab, .int xtl, .ref aghv, .ref agic, .ref agbe, .int xmk, .ref agmt, .ref agmv, .ref agma, .ref agnd, .ref agre, .ref agse, .ref aglv, .ref agal, .ref agds, .ref agno, .ref agna])), (aghv, .inl (cI, 1920, .inl ghv)), (agic, .inl (cI, 3600, .inl gic)), (agbe, .inl (cI, 3600, .inl gbe)), (agds, .inl (cI, 60, .inl gds))] ∧ nw U)) (va_Qv (fun (u : (Nat → Int32)) => post u) (fun (u : (Nat → Int32)) (t : State) => va_P (dC, dI) vwCl [(h0, .inr (4, [.int xth, .int xnv, .int xna, .ref agbi, .ref agab, .int xtl, .ref aghv, .ref agic, .ref agbe, .int xmk, .ref agmt, .ref agmv, .ref agma, .ref agnd, .ref agre, .ref agse, .ref aglv, .ref agal, .ref agds, .ref agno, .ref agna])), (aghv, .inl (cI, 1920, .inl ghv)), (agic, .inl (cI, 3600, .inl gic)), (agbe, .inl (cI, 3600, .inl gbe)), (agds, .inl (cI, 60, .inl u))] t.heap ∧ va_K (dC, dI) vwCl [(cI, .int), (cJ, .long)] t ∧ va_D (va_A [(h0, .inr (4, [.int xth, .int xnv, .int xna, .ref agbi, .ref agab, .int xtl, .ref aghv, .ref agic, .ref agbe, .int xmk, .ref agmt, .ref agmv, .ref agma, .ref agnd, .ref agre, .ref agse, .ref aglv, .ref agal, .ref agds, .ref agno, .ref agna])), (aghv, .inl (cI, 1920, .inl ghv)), (agic, .inl (cI, 3600, .inl gic)), (agbe, .inl (cI, 3600, .inl gbe)), (agds, .inl (cI, 60, .inl gds))] sz) [(h0, .inr (4, [.int xth, .int xnv, .int xna, .ref agbi, .ref agab, .int xtl, .ref aghv, .ref agic, .ref agbe, .int xmk, .ref agmt, .ref agmv, .ref agma, .ref agnd, .ref agre, .ref agse, .ref aglv, .ref agal, .ref agds, .ref agno, .ref agna])), (aghv, .inl (cI, 1920, .inl ghv)), (agic, .inl (cI, 3600, .inl gic)), (agbe, .inl (cI, 3600, .inl gbe)), (agds, .inl (cI, 60, .inl u))]) (va_A [(h0, .inr (4, [.int xth, .int xnv, .int xna, .ref agbi, .ref agab, .int xtl, .ref aghv, .ref agic, .ref agbe, .int xmk, .ref agmt, .ref agmv, .ref agma, .ref agnd, .ref agre, .ref agse, .ref aglv, .ref agal, .ref agds, .ref agno, .ref agna])), (aghv, .inl (cI, 1920, .inl ghv)), (agic, .inl (cI, 3600, .inl gic)), (agbe, .inl (cI, 3600, .inl gbe)), (agds, .inl (cI, 60, .inl gds))] sz)) 0 0 (va_A [(h0, .inr (4, [.int xth, .int xnv, .int xna, .ref agbi, .ref agab, .int xtl, .ref aghv, .ref agic, .ref agbe, .int xmk, .ref agmt, .ref agmv, .ref agma, .ref agnd, .ref agre, .ref agse, .ref aglv, .ref agal, .ref agds, .ref agno, .ref agna])), (aghv, .inl (cI, 1920, .inl ghv)), (agic, .inl (cI, 3600, .inl gic)), (agbe, .inl (cI, 3600, .inl gbe)), (agds, .inl (cI, 60, .inl gds))] sz) := by
  refine Met.ofW (cc := cX4_findDistances) (maxL := 5) (ret := none) (by decide) rfl ?_
  intro p e s m args below meth c s₁ B hml hv
  obtain ⟨rfl, hsz, hP, hK, hD0, hN⟩ := hv
  have hx := B.exec
  have hb := B.bytes
  have hr := B.returns
  have hts := atoms_spec (ws := wsX4_findDistances) B.pre
  have hown : s.vm.findClass RX4 = some m.cls := findClass_of_methodNamed B.named
  have hlocks := B.notSynchronized
  subst hsz
  have hD := hD0.self (sz := s.heap.size)
  generalize hAe : va_A [(h0, .inr (4, [.int xth, .int xnv, .int xna, .ref agbi, .ref agab, .int xtl, .ref aghv, .ref agic, .ref agbe, .int xmk, .ref agmt, .ref agmv, .ref agma, .ref agnd, .ref agre, .ref agse, .ref aglv, .ref agal, .ref agds, .ref agno, .ref agna])), (aghv, .inl (cI, 1920, .inl ghv)), (agic, .inl (cI, 3600, .inl gic)), (agbe, .inl (cI, 3600, .inl gbe)), (agds, .inl (cI, 60, .inl gds))] s.heap.size = A at hD ⊢
  have hA : ∀ q : Nat, s.heap.size ≤ q → A q := fun q h => by rw [← hAe]; exact Or.inr h
  have hS : va_S A s.heap s.heap [] := va_S.rf
  have hl := lv_entry ([.ref h0, .int p1]) (n := 5) (Nat.le_of_ble_eq_true rfl)
  rw [lg_entry_eq]
  generalize (lg_sl ([.ref h0, .int p1]) ++ List.replicate (5 - (lg_sl ([.ref h0, .int p1])).length) Slot.unset).toArray = ls at hl ⊢
  replace hl : lv_has ls 5 [(0, .ref h0), (1, .int p1)] := hl
  have hw0 := (show ∀ w ∈ wsX40, w ∈ wsX4_findDistances from by decide +kernel)
  have hw1 := hts (.fieldLink RX4 63 "EffectNetsModel" "variables" "I") (by decide +kernel)
  have hw2 := hts (.fieldLink RX4 50 "EffectNetsModel" "distance" "[I") (by decide +kernel)
  have hw3 := hts (.fieldLink RX4 16 "EffectNetsModel" "having" "[I") (by decide +kernel)
  refine hsp _ (fun (x2 : Int32) (gds : Nat → Int32) => ∀ (H : Heap) (locs : List Loc) (ls : Array Slot), va_P (dC, dI) vwCl [(h0, .inr (4, [.int xth, .int xnv, .int xna, .ref agbi, .ref agab, .int xtl, .ref aghv, .ref agic, .ref agbe, .int xmk, .ref agmt, .ref agmv, .ref agma, .ref agnd, .ref agre, .ref agse, .ref aglv, .ref agal, .ref agds, .ref agno, .ref agna])), (aghv, .inl (cI, 1920, .inl ghv)), (agic, .inl (cI, 3600, .inl gic)), (agbe, .inl (cI, 3600, .inl gbe)), (agds, .inl (cI, 60, .inl gds))] H → va_D A [(h0, .inr (4, [.int xth, .int xnv, .int xna, .ref agbi, .ref agab, .int xtl, .ref aghv, .ref agic, .ref agbe, .int xmk, .ref agmt, .ref agmv, .ref agma, .ref agnd, .ref agre, .ref agse, .ref aglv, .ref agal, .ref agds, .ref agno, .ref agna])), (aghv, .inl (cI, 1920, .inl ghv)), (agic, .inl (cI, 3600, .inl gic)), (agbe, .inl (cI, 3600, .inl gbe)), (agds, .inl (cI, 60, .inl gds))] → va_S A s.heap H locs → lv_has ls 5 [(0, .ref h0), (1, .int p1), (2, .int x2)] → W p l e (headSpec wsX4_findDistances ({ frames := 1, cells := 0, slots := 0, locals := 22 })).room s m (List.toArray [.ref h0, .int p1]) below meth c H locs 0 0 (MQ below (va_Qv (fun (u : (Nat → Int32)) => post u) (fun (u : (Nat → Int32)) (t : State) => va_P (dC, dI) vwCl [(h0, .inr (4, [.int xth, .int xnv, .int xna, .ref agbi, .ref agab, .int xtl, .ref aghv, .ref agic, .ref agbe, .int xmk, .ref agmt, .ref agmv, .ref agma, .ref agnd, .ref agre, .ref agse, .ref aglv, .ref agal, .ref agds, .ref agno, .ref agna])), (aghv, .inl (cI, 1920, .inl ghv)), (agic, .inl (cI, 3600, .inl gic)), (agbe, .inl (cI, 3600, .inl gbe)), (agds, .inl (cI, 60, .inl u))] t.heap ∧ va_K (dC, dI) vwCl [(cI, .int), (cJ, .long)] t ∧ va_D A [(h0, .inr (4, [.int xth, .int xnv, .int xna, .ref agbi, .ref agab, .int xtl, .ref aghv, .ref agic, .ref agbe, .int xmk, .ref agmt, .ref agmv, .ref agma, .ref agnd, .ref agre, .ref agse, .ref aglv, .ref agal, .ref agds, .ref agno, .ref agna])), (aghv, .inl (cI, 1920, .inl ghv)), (agic, .inl (cI, 3600, .inl gic)), (agbe, .inl (cI, 3600, .inl gbe)), (agds, .inl (cI, 60, .inl u))]) A) (List.toArray [.ref h0, .int p1]) s 0 0 A) (F0 m 2 ls [])) (fun (x2 : Int32) (gds : Nat → Int32) => ∀ (H : Heap) (locs : List Loc) (ls : Array Slot), va_P (dC, dI) vwCl [(h0, .inr (4, [.int xth, .int xnv, .int xna, .ref agbi, .ref agab, .int xtl, .ref aghv, .ref agic, .ref agbe, .int xmk, .ref agmt, .ref agmv, .ref agma, .ref agnd, .ref agre, .ref agse, .ref aglv, .ref agal, .ref agds, .ref agno, .ref agna])), (aghv, .inl (cI, 1920, .inl ghv)), (agic, .inl (cI, 3600, .inl gic)), (agbe, .inl (cI, 3600, .inl gbe)), (agds, .inl (cI, 60, .inl gds))] H → va_D A [(h0, .inr (4, [.int xth, .int xnv, .int xna, .ref agbi, .ref agab, .int xtl, .ref aghv, .ref agic, .ref agbe, .int xmk, .ref agmt, .ref agmv, .ref agma, .ref agnd, .ref agre, .ref agse, .ref aglv, .ref agal, .ref agds, .ref agno, .ref agna])), (aghv, .inl (cI, 1920, .inl ghv)), (agic, .inl (cI, 3600, .inl gic)), (agbe, .inl (cI, 3600, .inl gbe)), (agds, .inl (cI, 60, .inl gds))] → va_S A s.heap H locs → lv_has ls 5 [(0, .ref h0), (2, .int x2)] → W p l e (headSpec wsX4_findDistances ({ frames := 1, cells := 0, slots := 0, locals := 22 })).room s m (List.toArray [.ref h0, .int p1]) below meth c H locs 0 0 (MQ below (va_Qv (fun (u : (Nat → Int32)) => post u) (fun (u : (Nat → Int32)) (t : State) => va_P (dC, dI) vwCl [(h0, .inr (4, [.int xth, .int xnv, .int xna, .ref agbi, .ref agab, .int xtl, .ref aghv, .ref agic, .ref agbe, .int xmk, .ref agmt, .ref agmv, .ref agma, .ref agnd, .ref agre, .ref agse, .ref aglv, .ref agal, .ref agds, .ref agno, .ref agna])), (aghv, .inl (cI, 1920, .inl ghv)), (agic, .inl (cI, 3600, .inl gic)), (agbe, .inl (cI, 3600, .inl gbe)), (agds, .inl (cI, 60, .inl u))] t.heap ∧ va_K (dC, dI) vwCl [(cI, .int), (cJ, .long)] t ∧ va_D A [(h0, .inr (4, [.int xth, .int xnv, .int xna, .ref agbi, .ref agab, .int xtl, .ref aghv, .ref agic, .ref agbe, .int xmk, .ref agmt, .ref agmv, .ref agma, .ref agnd, .ref agre, .ref agse, .ref aglv, .ref agal, .ref agds, .ref agno, .ref agna])), (aghv, .inl (cI, 1920, .inl ghv)), (agic, .inl (cI, 3600, .inl gic)), (agbe, .inl (cI, 3600, .inl gbe)), (agds, .inl (cI, 60, .inl u))]) A) (List.toArray [.ref h0, .int p1]) s 0 0 A) (F0 m 43 ls [])) (fun (x2 : Int32) (x3 : Int32) (gds : Nat → Int32) => ∀ (H : Heap) (locs : List Loc) (ls : Array Slot), va_P (dC, dI) vwCl [(h0, .inr (4, [.int xth, .int xnv, .int xna, .ref agbi, .ref agab, .int xtl, .ref aghv, .ref agic, .ref agbe, .int xmk, .ref agmt, .ref agmv, .ref agma, .ref agnd, .ref agre, .ref agse, .ref aglv, .ref agal, .ref agds, .ref agno, .ref agna])), (aghv, .inl (cI, 1920, .inl ghv)), (agic, .inl (cI, 3600, .inl gic)), (agbe, .inl (cI, 3600, .inl gbe)), (agds, .inl (cI, 60, .inl gds))] H → va_D A [(h0, .inr (4, [.int xth, .int xnv, .int xna, .ref agbi, .ref agab, .int xtl, .ref aghv, .ref agic, .ref agbe, .int xmk, .ref agmt, .ref agmv, .ref agma, .ref agnd, .ref agre, .ref agse, .ref aglv, .ref agal, .ref agds, .ref agno, .ref agna])), (aghv, .inl (cI, 1920, .inl ghv)), (agic, .inl (cI, 3600, .inl gic)), (agbe, .inl (cI, 3600, .inl gbe)), (agds, .inl (cI, 60, .inl gds))] → va_S A s.heap H locs → lv_has ls 5 [(0, .ref h0), (2, .int x2), (3, .int x3)] → W p l e (headSpec wsX4_findDistances ({ frames := 1, cells := 0, slots := 0, locals := 22 })).room s m (List.toArray [.ref h0, .int p1]) below meth c H locs 0 0 (MQ below (va_Qv (fun (u : (Nat → Int32)) => post u) (fun (u : (Nat → Int32)) (t : State) => va_P (dC, dI) vwCl [(h0, .inr (4, [.int xth, .int xnv, .int xna, .ref agbi, .ref agab, .int xtl, .ref aghv, .ref agic, .ref agbe, .int xmk, .ref agmt, .ref agmv, .ref agma, .ref agnd, .ref agre, .ref agse, .ref aglv, .ref agal, .ref agds, .ref agno, .ref agna])), (aghv, .inl (cI, 1920, .inl ghv)), (agic, .inl (cI, 3600, .inl gic)), (agbe, .inl (cI, 3600, .inl gbe)), (agds, .inl (cI, 60, .inl u))] t.heap ∧ va_K (dC, dI) vwCl [(cI, .int), (cJ, .long)] t ∧ va_D A [(h0, .inr (4, [.int xth, .int xnv, .int xna, .ref agbi, .ref agab, .int xtl, .ref aghv, .ref agic, .ref agbe, .int xmk, .ref agmt, .ref agmv, .ref agma, .ref agnd, .ref agre, .ref agse, .ref aglv, .ref agal, .ref agds, .ref agno, .ref agna])), (aghv, .inl (cI, 1920, .inl ghv)), (agic, .inl (cI, 3600, .inl gic)), (agbe, .inl (cI, 3600, .inl gbe)), (agds, .inl (cI, 60, .inl u))]) A) (List.toArray [.ref h0, .int p1]) s 0 0 A) (F0 m 53 ls [])) (fun (x2 : Int32) (x3 : Int32) (x4 : Int32) (gds : Nat → Int32) => ∀ (H : Heap) (locs : List Loc) (ls : Array Slot), va_P (dC, dI) vwCl [(h0, .inr (4, [.int xth, .int xnv, .int xna, .ref agbi, .ref agab, .int xtl, .ref aghv, .ref agic, .ref agbe, .int xmk, .ref agmt, .ref agmv, .ref agma, .ref agnd, .ref agre, .ref agse, .ref aglv, .ref agal, .ref agds, .ref agno, .ref agna])), (aghv, .inl (cI, 1920, .inl ghv)), (agic, .inl (cI, 3600, .inl gic)), (agbe, .inl (cI, 3600, .inl gbe)), (agds, .inl (cI, 60, .inl gds))] H → va_D A [(h0, .inr (4, [.int xth, .int xnv, .int xna, .ref agbi, .ref agab, .int xtl, .ref aghv, .ref agic, .ref agbe, .int xmk, .ref agmt, .ref agmv, .ref agma, .ref agnd, .ref agre, .ref agse, .ref aglv, .ref agal, .ref agds, .ref agno, .ref agna])), (aghv, .inl (cI, 1920, .inl ghv)), (agic, .inl (cI, 3600, .inl gic)), (agbe, .inl (cI, 3600, .inl gbe)), (agds, .inl (cI, 60, .inl gds))] → va_S A s.heap H locs → lv_has ls 5 [(0, .ref h0), (2, .int x2), (3, .int x3), (4, .int x4)] → W p l e (headSpec wsX4_findDistances ({ frames := 1, cells := 0, slots := 0, locals := 22 })).room s m (List.toArray [.ref h0, .int p1]) below meth c H locs 0 0 (MQ below (va_Qv (fun (u : (Nat → Int32)) => post u) (fun (u : (Nat → Int32)) (t : State) => va_P (dC, dI) vwCl [(h0, .inr (4, [.int xth, .int xnv, .int xna, .ref agbi, .ref agab, .int xtl, .ref aghv, .ref agic, .ref agbe, .int xmk, .ref agmt, .ref agmv, .ref agma, .ref agnd, .ref agre, .ref agse, .ref aglv, .ref agal, .ref agds, .ref agno, .ref agna])), (aghv, .inl (cI, 1920, .inl ghv)), (agic, .inl (cI, 3600, .inl gic)), (agbe, .inl (cI, 3600, .inl gbe)), (agds, .inl (cI, 60, .inl u))] t.heap ∧ va_K (dC, dI) vwCl [(cI, .int), (cJ, .long)] t ∧ va_D A [(h0, .inr (4, [.int xth, .int xnv, .int xna, .ref agbi, .ref agab, .int xtl, .ref aghv, .ref agic, .ref agbe, .int xmk, .ref agmt, .ref agmv, .ref agma, .ref agnd, .ref agre, .ref agse, .ref aglv, .ref agal, .ref agds, .ref agno, .ref agna])), (aghv, .inl (cI, 1920, .inl ghv)), (agic, .inl (cI, 3600, .inl gic)), (agbe, .inl (cI, 3600, .inl gbe)), (agds, .inl (cI, 60, .inl u))]) A) (List.toArray [.ref h0, .int p1]) s 0 0 A) (F0 m 64 ls [])) ?_ ?_ ?_ ?_ ?_
  · intro x2 gds ht H locs ls hP hD hS hl
    refine lv_iload_n hx hb dX4_findDistances_2 rfl (lv_at hl 2 rfl) ?_
    refine lv_aload_n hx hb dX4_findDistances_3 rfl (lv_at hl 0 rfl) ?_
    refine va_get (D := (dC, dI)) (ci := 4) (v := .int xnv) (C := RX4) (T := TX4) (N := 21) hx hb hts hw0 hown hK hP 0 rfl rfl 1 (by decide) hw1 (fun _ h9 => h9) rfl dX4_findDistances_4 ?_
    refine lv_icmp_ge (tgt := 41) hx hb dX4_findDistances_7 (by decide) (fun c1 => ?_) (fun c1 => ?_)
    · replace ht := ht.1 c1
      refine lv_iconst (v := 2) hx hb dX4_findDistances_41 (by decide) ?_
      refine lv_istore_n (lv' := [(2, .int 2), (0, .ref h0), (1, .int p1)]) hx hb dX4_findDistances_42 rfl hl (by decide) rfl (fun ls hl => ?_)
      exact ht _ _ _ hP hD hS (lv_sub hl [1, 0] rfl)
    · replace ht := ht.2 c1
      refine lv_aload_n hx hb dX4_findDistances_10 rfl (lv_at hl 0 rfl) ?_
      refine va_get (D := (dC, dI)) (ci := 4) (v := .ref agds) (C := RX4) (T := TX4) (N := 21) hx hb hts hw0 hown hK hP 0 rfl rfl 18 (by decide) hw2 (fun _ h9 => h9) rfl dX4_findDistances_11 ?_
      refine lv_iload_n hx hb dX4_findDistances_14 rfl (lv_at hl 2 rfl) ?_
      refine lv_aload_n hx hb dX4_findDistances_15 rfl (lv_at hl 0 rfl) ?_
      refine va_get (D := (dC, dI)) (ci := 4) (v := .ref aghv) (C := RX4) (T := TX4) (N := 21) hx hb hts hw0 hown hK hP 0 rfl rfl 6 (by decide) hw3 (fun _ h9 => h9) rfl dX4_findDistances_16 ?_
      refine lv_bipush (v := 32) hx hb dX4_findDistances_19 (by decide) ?_
      refine lv_iload_n hx hb dX4_findDistances_21 rfl (lv_at hl 2 rfl) ?_
      refine lv_imul hx hb dX4_findDistances_22 ?_
      refine lv_iload_n hx hb dX4_findDistances_23 rfl (lv_at hl 1 rfl) ?_
      refine lv_iadd hx hb dX4_findDistances_24 ?_
      obtain ⟨i2, ht⟩ := ht
      refine va_iald hx hb hK hP 1 0 rfl rfl i2 dX4_findDistances_25 ?_
      refine lv_if_le (tgt := 33) hx hb dX4_findDistances_26 (by decide) (fun c3 => ?_) (fun c3 => ?_)
      · replace ht := ht.1 c3
        refine lv_iconst (v := 0) hx hb dX4_findDistances_33 (by decide) ?_
        obtain ⟨i4, ht⟩ := ht
        refine va_iast hx hb hK hP hD hS 4 0 rfl rfl i4 dX4_findDistances_34 (fun H locs hP hD hS => ?_)
        replace hP : va_P (dC, dI) vwCl [(h0, .inr (4, [.int xth, .int xnv, .int xna, .ref agbi, .ref agab, .int xtl, .ref aghv, .ref agic, .ref agbe, .int xmk, .ref agmt, .ref agmv, .ref agma, .ref agnd, .ref agre, .ref agse, .ref aglv, .ref agal, .ref agds, .ref agno, .ref agna])), (aghv, .inl (cI, 1920, .inl ghv)), (agic, .inl (cI, 3600, .inl gic)), (agbe, .inl (cI, 3600, .inl gbe)), (agds, .inl (cI, 60, .inl (upd gds x2.toNatClampNeg 0)))] H := hP
        replace hD : va_D A [(h0, .inr (4, [.int xth, .int xnv, .int xna, .ref agbi, .ref agab, .int xtl, .ref aghv, .ref agic, .ref agbe, .int xmk, .ref agmt, .ref agmv, .ref agma, .ref agnd, .ref agre, .ref agse, .ref aglv, .ref agal, .ref agds, .ref agno, .ref agna])), (aghv, .inl (cI, 1920, .inl ghv)), (agic, .inl (cI, 3600, .inl gic)), (agbe, .inl (cI, 3600, .inl gbe)), (agds, .inl (cI, 60, .inl (upd gds x2.toNatClampNeg 0)))] := hD
        obtain ⟨y5, ey5⟩ : ∃ y : Int32, y = x2 + 1 := ⟨_, rfl⟩
        replace ht := ht y5 ey5
        refine lv_iinc (v := y5) (lv' := [(2, .int y5), (0, .ref h0), (1, .int p1)]) hx hb dX4_findDistances_35 hl (k := 2) rfl (by rw [ey5]; rfl) (by decide) rfl (fun ls hl => ?_)
        refine lv_goto (tgt := 2) hx hb dX4_findDistances_38 (by decide) ?_
        exact ht _ _ _ hP hD hS (lv_sub hl [1, 2, 0] rfl)
      · replace ht := ht.2 c3
        refine lv_iconst (v := 1) hx hb dX4_findDistances_29 (by decide) ?_
        refine lv_goto (tgt := 34) hx hb dX4_findDistances_30 (by decide) ?_
        obtain ⟨i6, ht⟩ := ht
        refine va_iast hx hb hK hP hD hS 4 0 rfl rfl i6 dX4_findDistances_34 (fun H locs hP hD hS => ?_)
        replace hP : va_P (dC, dI) vwCl [(h0, .inr (4, [.int xth, .int xnv, .int xna, .ref agbi, .ref agab, .int xtl, .ref aghv, .ref agic, .ref agbe, .int xmk, .ref agmt, .ref agmv, .ref agma, .ref agnd, .ref agre, .ref agse, .ref aglv, .ref agal, .ref agds, .ref agno, .ref agna])), (aghv, .inl (cI, 1920, .inl ghv)), (agic, .inl (cI, 3600, .inl gic)), (agbe, .inl (cI, 3600, .inl gbe)), (agds, .inl (cI, 60, .inl (upd gds x2.toNatClampNeg 1)))] H := hP
        replace hD : va_D A [(h0, .inr (4, [.int xth, .int xnv, .int xna, .ref agbi, .ref agab, .int xtl, .ref aghv, .ref agic, .ref agbe, .int xmk, .ref agmt, .ref agmv, .ref agma, .ref agnd, .ref agre, .ref agse, .ref aglv, .ref agal, .ref agds, .ref agno, .ref agna])), (aghv, .inl (cI, 1920, .inl ghv)), (agic, .inl (cI, 3600, .inl gic)), (agbe, .inl (cI, 3600, .inl gbe)), (agds, .inl (cI, 60, .inl (upd gds x2.toNatClampNeg 1)))] := hD
        obtain ⟨y7, ey7⟩ : ∃ y : Int32, y = x2 + 1 := ⟨_, rfl⟩
        replace ht := ht y7 ey7
        refine lv_iinc (v := y7) (lv' := [(2, .int y7), (0, .ref h0), (1, .int p1)]) hx hb dX4_findDistances_35 hl (k := 2) rfl (by rw [ey7]; rfl) (by decide) rfl (fun ls hl => ?_)
        refine lv_goto (tgt := 2) hx hb dX4_findDistances_38 (by decide) ?_
        exact ht _ _ _ hP hD hS (lv_sub hl [1, 2, 0] rfl)
  · intro x2 gds ht H locs ls hP hD hS hl
    refine lv_iload_n hx hb dX4_findDistances_43 rfl (lv_at hl 1 rfl) ?_
    refine lv_aload_n hx hb dX4_findDistances_44 rfl (lv_at hl 0 rfl) ?_
    refine va_get (D := (dC, dI)) (ci := 4) (v := .int xnv) (C := RX4) (T := TX4) (N := 21) hx hb hts hw0 hown hK hP 0 rfl rfl 1 (by decide) hw1 (fun _ h9 => h9) rfl dX4_findDistances_45 ?_
    refine lv_icmp_gt (tgt := 134) hx hb dX4_findDistances_48 (by decide) (fun c8 => ?_) (fun c8 => ?_)
    · replace ht := ht.1 c8
      have hP9 : va_P (dC, dI) vwCl [(h0, .inr (4, [.int xth, .int xnv, .int xna, .ref agbi, .ref agab, .int xtl, .ref aghv, .ref agic, .ref agbe, .int xmk, .ref agmt, .ref agmv, .ref agma, .ref agnd, .ref agre, .ref agse, .ref aglv, .ref agal, .ref agds, .ref agno, .ref agna])), (aghv, .inl (cI, 1920, .inl ghv)), (agic, .inl (cI, 3600, .inl gic)), (agbe, .inl (cI, 3600, .inl gbe)), (agds, .inl (cI, 60, .inl gds))] _ := hP
      have hD9 : va_D A [(h0, .inr (4, [.int xth, .int xnv, .int xna, .ref agbi, .ref agab, .int xtl, .ref aghv, .ref agic, .ref agbe, .int xmk, .ref agmt, .ref agmv, .ref agma, .ref agnd, .ref agre, .ref agse, .ref aglv, .ref agal, .ref agds, .ref agno, .ref agna])), (aghv, .inl (cI, 1920, .inl ghv)), (agic, .inl (cI, 3600, .inl gic)), (agbe, .inl (cI, 3600, .inl gbe)), (agds, .inl (cI, 60, .inl gds))] := hD
      exact W.vret hx hb hr (fun t ht9 hW => ⟨⟨gds, rfl, ht, by rw [ht9]; exact hP9, va_K.moved hW.alike hK, hD9⟩, hS.F ht9⟩) hS.2.2 dX4_findDistances_134
    · replace ht := ht.2 c8
      refine lv_iconst (v := 0) hx hb dX4_findDistances_51 (by decide) ?_
      refine lv_istore_n (lv' := [(3, .int 0), (0, .ref h0), (2, .int x2)]) hx hb dX4_findDistances_52 rfl hl (by decide) rfl (fun ls hl => ?_)
      exact ht _ _ _ hP hD hS (lv_sub hl [1, 2, 0] rfl)
  · intro x2 x3 gds ht H locs ls hP hD hS hl
    refine lv_iload_n hx hb dX4_findDistances_53 rfl (lv_at hl 2 rfl) ?_
    refine lv_aload_n hx hb dX4_findDistances_54 rfl (lv_at hl 0 rfl) ?_
    refine va_get (D := (dC, dI)) (ci := 4) (v := .int xnv) (C := RX4) (T := TX4) (N := 21) hx hb hts hw0 hown hK hP 0 rfl rfl 1 (by decide) hw1 (fun _ h9 => h9) rfl dX4_findDistances_55 ?_
    refine lv_icmp_ge (tgt := 128) hx hb dX4_findDistances_58 (by decide) (fun c9 => ?_) (fun c9 => ?_)
    · replace ht := ht.1 c9
      obtain ⟨y10, ey10⟩ : ∃ y : Int32, y = x2 + 1 := ⟨_, rfl⟩
      replace ht := ht y10 ey10
      refine lv_iinc (v := y10) (lv' := [(2, .int y10), (0, .ref h0), (3, .int x3)]) hx hb dX4_findDistances_128 hl (k := 1) rfl (by rw [ey10]; rfl) (by decide) rfl (fun ls hl => ?_)
      refine lv_goto (tgt := 43) hx hb dX4_findDistances_131 (by decide) ?_
      exact ht _ _ _ hP hD hS (lv_sub hl [1, 0] rfl)
    · replace ht := ht.2 c9
      refine lv_iconst (v := 0) hx hb dX4_findDistances_61 (by decide) ?_
      refine lv_istore (lv' := [(4, .int 0), (0, .ref h0), (2, .int x2), (3, .int x3)]) hx hb dX4_findDistances_62 hl (by decide) rfl (fun ls hl => ?_)
      exact ht _ _ _ hP hD hS (lv_sub hl [1, 2, 3, 0] rfl)
  · intro x2 x3 x4 gds ht H locs ls hP hD hS hl
    refine lv_iload hx hb dX4_findDistances_64 (lv_at hl 3 rfl) ?_
    refine lv_aload_n hx hb dX4_findDistances_66 rfl (lv_at hl 0 rfl) ?_
    refine va_get (D := (dC, dI)) (ci := 4) (v := .int xnv) (C := RX4) (T := TX4) (N := 21) hx hb hts hw0 hown hK hP 0 rfl rfl 1 (by decide) hw1 (fun _ h9 => h9) rfl dX4_findDistances_67 ?_
    refine lv_icmp_ge (tgt := 122) hx hb dX4_findDistances_70 (by decide) (fun c11 => ?_) (fun c11 => ?_)
    · replace ht := ht.1 c11
      obtain ⟨y12, ey12⟩ : ∃ y : Int32, y = x3 + 1 := ⟨_, rfl⟩
      replace ht := ht y12 ey12
      refine lv_iinc (v := y12) (lv' := [(3, .int y12), (0, .ref h0), (2, .int x2), (4, .int x4)]) hx hb dX4_findDistances_122 hl (k := 2) rfl (by rw [ey12]; rfl) (by decide) rfl (fun ls hl => ?_)
      refine lv_goto (tgt := 53) hx hb dX4_findDistances_125 (by decide) ?_
      exact ht _ _ _ hP hD hS (lv_sub hl [1, 2, 0] rfl)
    · replace ht := ht.2 c11
      refine lv_aload_n hx hb dX4_findDistances_73 rfl (lv_at hl 0 rfl) ?_
      refine va_get (D := (dC, dI)) (ci := 4) (v := .ref agds) (C := RX4) (T := TX4) (N := 21) hx hb hts hw0 hown hK hP 0 rfl rfl 18 (by decide) hw2 (fun _ h9 => h9) rfl dX4_findDistances_74 ?_
      refine lv_iload_n hx hb dX4_findDistances_77 rfl (lv_at hl 2 rfl) ?_
      obtain ⟨i13, ht⟩ := ht
      refine va_iald hx hb hK hP 4 0 rfl rfl i13 dX4_findDistances_78 ?_
      refine lv_if_ne (tgt := 122) hx hb dX4_findDistances_79 (by decide) (fun c14 => ?_) (fun c14 => ?_)
      · replace ht := ht.1 c14
        obtain ⟨y15, ey15⟩ : ∃ y : Int32, y = x3 + 1 := ⟨_, rfl⟩
        replace ht := ht y15 ey15
        refine lv_iinc (v := y15) (lv' := [(3, .int y15), (0, .ref h0), (2, .int x2), (4, .int x4)]) hx hb dX4_findDistances_122 hl (k := 2) rfl (by rw [ey15]; rfl) (by decide) rfl (fun ls hl => ?_)
        refine lv_goto (tgt := 53) hx hb dX4_findDistances_125 (by decide) ?_
        exact ht _ _ _ hP hD hS (lv_sub hl [1, 2, 0] rfl)
      · replace ht := ht.2 c14
        refine lv_aload_n hx hb dX4_findDistances_82 rfl (lv_at hl 0 rfl) ?_
        refine va_get (D := (dC, dI)) (ci := 4) (v := .ref agds) (C := RX4) (T := TX4) (N := 21) hx hb hts hw0 hown hK hP 0 rfl rfl 18 (by decide) hw2 (fun _ h9 => h9) rfl dX4_findDistances_83 ?_
        refine lv_iload_n hx hb dX4_findDistances_86 rfl (lv_at hl 2 rfl) ?_
        refine lv_aload_n hx hb dX4_findDistances_87 rfl (lv_at hl 0 rfl) ?_
        refine lv_iload_n hx hb dX4_findDistances_88 rfl (lv_at hl 2 rfl) ?_
        refine lv_iload hx hb dX4_findDistances_89 (lv_at hl 3 rfl) ?_
        have hPc := hP.sub (ws' := [(h0, .inr (4, [.int xth, .int xnv, .int xna, .ref agbi, .ref agab, .int xtl, .ref aghv, .ref agic, .ref agbe, .int xmk, .ref agmt, .ref agmv, .ref agma, .ref agnd, .ref agre, .ref agse, .ref aglv, .ref agal, .ref agds, .ref agno, .ref agna])), (agic, .inl (cI, 3600, .inl gic)), (agbe, .inl (cI, 3600, .inl gbe))]) [0, 2, 3] rfl
        have hDc := hD.sub (ws' := [(h0, .inr (4, [.int xth, .int xnv, .int xna, .ref agbi, .ref agab, .int xtl, .ref aghv, .ref agic, .ref agbe, .int xmk, .ref agmt, .ref agmv, .ref agma, .ref agnd, .ref agre, .ref agse, .ref aglv, .ref agal, .ref agds, .ref agno, .ref agna])), (agic, .inl (cI, 3600, .inl gic)), (agbe, .inl (cI, 3600, .inl gbe))]) [0, 2, 3] (by decide) rfl
        have hFc := va_free (wc := [(h0, .inr (4, [.int xth, .int xnv, .int xna, .ref agbi, .ref agab, .int xtl, .ref aghv, .ref agic, .ref agbe, .int xmk, .ref agmt, .ref agmv, .ref agma, .ref agnd, .ref agre, .ref agse, .ref aglv, .ref agal, .ref agds, .ref agno, .ref agna])), (agic, .inl (cI, 3600, .inl gic)), (agbe, .inl (cI, 3600, .inl gbe))]) hD hS hA [0, 2, 3] rfl
        refine va_calli (va_runV (As := [.int x3, .int x4]) (rest := [.int x3, .ref agds]) ⟨hx, hb, hml, hown, hts⟩ (c_X4_leads l dC dI cI cJ h0 agbi agab aghv agic agbe agmt agmv agma agnd agre agse aglv agal agds agno agna xth xnv xna xtl xmk gic gbe H.size x3 x4 _ ht) (cwV 2 hts gX4_findDistances_X4_leads rfl rfl rfl (by decide +kernel) ⟨Nat.le_of_ble_eq_true rfl, Nat.le_of_ble_eq_true rfl⟩) ⟨fun a U g mk q => by obtain ⟨q0, q1, qP, qK, qD, qN⟩ := q; exact ⟨q0, q1, qP, va_K.moved (u := U) (U := U.calling g mk a) (Vm.Alike.refl U.vm) qK, qD, nw_same rfl qN⟩, va_recv hK hP (ci := 4) (q0 := 0) rfl rfl, fun U hU hW => ⟨rfl, by rw [hU], by rw [hU]; exact hPc, va_K.moved hW.alike hK, hDc.weaken (fun _ _ _ _ => trivial), nw_warm hW hN⟩⟩ rfl rfl hl.1 rfl (lv_room (Nat.le_of_ble_eq_true rfl)) dX4_findDistances_91 ⟨Nat.le_of_ble_eq_true rfl, Nat.le_of_ble_eq_true rfl⟩) hS (fun q _ h => hFc q h) hFc (fun r16 u t H1 locs ht9 hvm hw hB hz1 hk1 hS => ?_)
        obtain ⟨hP1, hK1, hD1⟩ := hB
        rw [ht9] at hP1
        try dsimp only at hw
        replace ht := hw
        obtain ⟨hP, hD⟩ := va_join (wr := [(aghv, .inl (cI, 1920, .inl ghv)), (agds, .inl (cI, 60, .inl gds))]) (w1 := [(h0, .inr (4, [.int xth, .int xnv, .int xna, .ref agbi, .ref agab, .int xtl, .ref aghv, .ref agic, .ref agbe, .int xmk, .ref agmt, .ref agmv, .ref agma, .ref agnd, .ref agre, .ref agse, .ref aglv, .ref agal, .ref agds, .ref agno, .ref agna])), (agic, .inl (cI, 3600, .inl gic)), (agbe, .inl (cI, 3600, .inl gbe))]) hP hD [0, 2, 3] [1, 4] rfl rfl (by decide) (by decide) hk1 hFc hP1 hD1
        generalize H1 = H at hP hS ⊢
        replace hP : va_P (dC, dI) vwCl [(aghv, .inl (cI, 1920, .inl ghv)), (agds, .inl (cI, 60, .inl gds)), (h0, .inr (4, [.int xth, .int xnv, .int xna, .ref agbi, .ref agab, .int xtl, .ref aghv, .ref agic, .ref agbe, .int xmk, .ref agmt, .ref agmv, .ref agma, .ref agnd, .ref agre, .ref agse, .ref aglv, .ref agal, .ref agds, .ref agno, .ref agna])), (agic, .inl (cI, 3600, .inl gic)), (agbe, .inl (cI, 3600, .inl gbe))] H := hP
        replace hD : va_D A [(aghv, .inl (cI, 1920, .inl ghv)), (agds, .inl (cI, 60, .inl gds)), (h0, .inr (4, [.int xth, .int xnv, .int xna, .ref agbi, .ref agab, .int xtl, .ref aghv, .ref agic, .ref agbe, .int xmk, .ref agmt, .ref agmv, .ref agma, .ref agnd, .ref agre, .ref agse, .ref aglv, .ref agal, .ref agds, .ref agno, .ref agna])), (agic, .inl (cI, 3600, .inl gic)), (agbe, .inl (cI, 3600, .inl gbe))] := hD
        refine lv_if_eq (tgt := 114) hx hb dX4_findDistances_94 (by decide) (fun c17 => ?_) (fun c17 => ?_)
        · replace ht := ht.1 c17
          refine lv_iconst (v := 0) hx hb dX4_findDistances_114 (by decide) ?_
          refine va_iast hx hb hK hP hD hS 1 0 rfl rfl i13 dX4_findDistances_115 (fun H locs hP hD hS => ?_)
          replace hP : va_P (dC, dI) vwCl [(aghv, .inl (cI, 1920, .inl ghv)), (agds, .inl (cI, 60, .inl (upd gds x3.toNatClampNeg 0))), (h0, .inr (4, [.int xth, .int xnv, .int xna, .ref agbi, .ref agab, .int xtl, .ref aghv, .ref agic, .ref agbe, .int xmk, .ref agmt, .ref agmv, .ref agma, .ref agnd, .ref agre, .ref agse, .ref aglv, .ref agal, .ref agds, .ref agno, .ref agna])), (agic, .inl (cI, 3600, .inl gic)), (agbe, .inl (cI, 3600, .inl gbe))] H := hP
          replace hD : va_D A [(aghv, .inl (cI, 1920, .inl ghv)), (agds, .inl (cI, 60, .inl (upd gds x3.toNatClampNeg 0))), (h0, .inr (4, [.int xth, .int xnv, .int xna, .ref agbi, .ref agab, .int xtl, .ref aghv, .ref agic, .ref agbe, .int xmk, .ref agmt, .ref agmv, .ref agma, .ref agnd, .ref agre, .ref agse, .ref aglv, .ref agal, .ref agds, .ref agno, .ref agna])), (agic, .inl (cI, 3600, .inl gic)), (agbe, .inl (cI, 3600, .inl gbe))] := hD
          obtain ⟨y18, ey18⟩ : ∃ y : Int32, y = x4 + 1 := ⟨_, rfl⟩
          replace ht := ht y18 ey18
          refine lv_iinc (v := y18) (lv' := [(4, .int y18), (0, .ref h0), (2, .int x2), (3, .int x3)]) hx hb dX4_findDistances_116 hl (k := 3) rfl (by rw [ey18]; rfl) (by decide) rfl (fun ls hl => ?_)
          refine lv_goto (tgt := 64) hx hb dX4_findDistances_119 (by decide) ?_
          exact ht _ _ _ (hP.sub [2, 0, 3, 4, 1] rfl) (hD.sub [2, 0, 3, 4, 1] (by decide) rfl) hS (lv_sub hl [1, 2, 3, 0] rfl)
        · replace ht := ht.2 c17
          refine lv_aload_n hx hb dX4_findDistances_97 rfl (lv_at hl 0 rfl) ?_
          refine va_get (D := (dC, dI)) (ci := 4) (v := .ref agds) (C := RX4) (T := TX4) (N := 21) hx hb hts hw0 hown hK hP 2 rfl rfl 18 (by decide) hw2 (fun _ h9 => h9) rfl dX4_findDistances_98 ?_
          refine lv_iload hx hb dX4_findDistances_101 (lv_at hl 3 rfl) ?_
          obtain ⟨i19, ht⟩ := ht
          refine va_iald hx hb hK hP 1 0 rfl rfl i19 dX4_findDistances_103 ?_
          refine lv_iload_n hx hb dX4_findDistances_104 rfl (lv_at hl 1 rfl) ?_
          refine lv_iconst (v := 1) hx hb dX4_findDistances_105 (by decide) ?_
          refine lv_isub hx hb dX4_findDistances_106 ?_
          refine lv_icmp_ne (tgt := 114) hx hb dX4_findDistances_107 (by decide) (fun c20 => ?_) (fun c20 => ?_)
          · replace ht := ht.1 c20
            refine lv_iconst (v := 0) hx hb dX4_findDistances_114 (by decide) ?_
            refine va_iast hx hb hK hP hD hS 1 0 rfl rfl i13 dX4_findDistances_115 (fun H locs hP hD hS => ?_)
            replace hP : va_P (dC, dI) vwCl [(aghv, .inl (cI, 1920, .inl ghv)), (agds, .inl (cI, 60, .inl (upd gds x3.toNatClampNeg 0))), (h0, .inr (4, [.int xth, .int xnv, .int xna, .ref agbi, .ref agab, .int xtl, .ref aghv, .ref agic, .ref agbe, .int xmk, .ref agmt, .ref agmv, .ref agma, .ref agnd, .ref agre, .ref agse, .ref aglv, .ref agal, .ref agds, .ref agno, .ref agna])), (agic, .inl (cI, 3600, .inl gic)), (agbe, .inl (cI, 3600, .inl gbe))] H := hP
            replace hD : va_D A [(aghv, .inl (cI, 1920, .inl ghv)), (agds, .inl (cI, 60, .inl (upd gds x3.toNatClampNeg 0))), (h0, .inr (4, [.int xth, .int xnv, .int xna, .ref agbi, .ref agab, .int xtl, .ref aghv, .ref agic, .ref agbe, .int xmk, .ref agmt, .ref agmv, .ref agma, .ref agnd, .ref agre, .ref agse, .ref aglv, .ref agal, .ref agds, .ref agno, .ref agna])), (agic, .inl (cI, 3600, .inl gic)), (agbe, .inl (cI, 3600, .inl gbe))] := hD
            obtain ⟨y21, ey21⟩ : ∃ y : Int32, y = x4 + 1 := ⟨_, rfl⟩
            replace ht := ht y21 ey21
            refine lv_iinc (v := y21) (lv' := [(4, .int y21), (0, .ref h0), (2, .int x2), (3, .int x3)]) hx hb dX4_findDistances_116 hl (k := 3) rfl (by rw [ey21]; rfl) (by decide) rfl (fun ls hl => ?_)
            refine lv_goto (tgt := 64) hx hb dX4_findDistances_119 (by decide) ?_
            exact ht _ _ _ (hP.sub [2, 0, 3, 4, 1] rfl) (hD.sub [2, 0, 3, 4, 1] (by decide) rfl) hS (lv_sub hl [1, 2, 3, 0] rfl)
          · replace ht := ht.2 c20
            refine lv_iload_n hx hb dX4_findDistances_110 rfl (lv_at hl 1 rfl) ?_
            refine lv_goto (tgt := 115) hx hb dX4_findDistances_111 (by decide) ?_
            refine va_iast hx hb hK hP hD hS 1 0 rfl rfl i13 dX4_findDistances_115 (fun H locs hP hD hS => ?_)
            replace hP : va_P (dC, dI) vwCl [(aghv, .inl (cI, 1920, .inl ghv)), (agds, .inl (cI, 60, .inl (upd gds x3.toNatClampNeg x2))), (h0, .inr (4, [.int xth, .int xnv, .int xna, .ref agbi, .ref agab, .int xtl, .ref aghv, .ref agic, .ref agbe, .int xmk, .ref agmt, .ref agmv, .ref agma, .ref agnd, .ref agre, .ref agse, .ref aglv, .ref agal, .ref agds, .ref agno, .ref agna])), (agic, .inl (cI, 3600, .inl gic)), (agbe, .inl (cI, 3600, .inl gbe))] H := hP
            replace hD : va_D A [(aghv, .inl (cI, 1920, .inl ghv)), (agds, .inl (cI, 60, .inl (upd gds x3.toNatClampNeg x2))), (h0, .inr (4, [.int xth, .int xnv, .int xna, .ref agbi, .ref agab, .int xtl, .ref aghv, .ref agic, .ref agbe, .int xmk, .ref agmt, .ref agmv, .ref agma, .ref agnd, .ref agre, .ref agse, .ref aglv, .ref agal, .ref agds, .ref agno, .ref agna])), (agic, .inl (cI, 3600, .inl gic)), (agbe, .inl (cI, 3600, .inl gbe))] := hD
            obtain ⟨y22, ey22⟩ : ∃ y : Int32, y = x4 + 1 := ⟨_, rfl⟩
            replace ht := ht y22 ey22
            refine lv_iinc (v := y22) (lv' := [(4, .int y22), (0, .ref h0), (2, .int x2), (3, .int x3)]) hx hb dX4_findDistances_116 hl (k := 3) rfl (by rw [ey22]; rfl) (by decide) rfl (fun ls hl => ?_)
            refine lv_goto (tgt := 64) hx hb dX4_findDistances_119 (by decide) ?_
            exact ht _ _ _ (hP.sub [2, 0, 3, 4, 1] rfl) (hD.sub [2, 0, 3, 4, 1] (by decide) rfl) hS (lv_sub hl [1, 2, 3, 0] rfl)
  · intro ht
    refine lv_iconst (v := 0) hx hb dX4_findDistances_0 (by decide) ?_
    refine lv_istore_n (lv' := [(2, .int 0), (0, .ref h0), (1, .int p1)]) hx hb dX4_findDistances_1 rfl hl (by decide) rfl (fun ls hl => ?_)
    exact ht _ _ _ hP hD hS (lv_sub hl [1, 2, 0] rfl)
set_option maxHeartbeats 4000000 in
set_option maxRecDepth 100000 in
theorem c_X4_way (l : Launch) (dC : Nat → ClassId) (dI : Nat → Nat → Nat) (cI cJ : ClassId) (h0 : Nat) (agbi : Nat) (agab : Nat) (aghv : Nat) (agic : Nat) (agbe : Nat) (agmt : Nat) (agmv : Nat) (agma : Nat) (agnd : Nat) (agre : Nat) (agse : Nat) (aglv : Nat) (agal : Nat) (agds : Nat) (agno : Nat) (agna : Nat) (xth : Int32) (xnv : Int32) (xna : Int32) (xtl : Int32) (xmk : Int32) (ghv : Nat → Int32) (gic : Nat → Int32) (gbe : Nat → Int32) (gds : Nat → Int32) (sz : Nat) (p1 : Int32) (p2 : Int32) (p3 : Int32) (post : Int32 → Int32 → (Nat → Int32) → Prop) (hsp : S_X4_way p1 p2 p3 xth xnv xna ghv gic gbe gds post) : Met l yX4_way wsX4_way ({ frames := 2, cells := 0, slots := 0, locals := 46 }) (va_Pc [.ref h0, .int p1, .int p2, .int p3] (fun U => U.heap.size = sz ∧ va_P (dC, dI) vwCl [(h0, .inr (4, [.int xth, .int xnv, .int xna, .ref agbi, .ref agab, .int xtl, .ref aghv, .ref agic, .ref agbe, .int xmk, .ref agmt, .ref agmv, .ref agma, .ref agnd, .ref agre, .ref agse, .ref aglv, .ref agal, .ref agds, .ref agno, .ref agna])), (aghv, .inl (cI, 1920, .inl ghv)), (agic, .inl (cI, 3600, .inl gic)), (agbe, .inl (cI, 3600, .inl gbe)), (agds, .inl (cI, 60, .inl gds))] U.heap ∧ va_K (dC, dI) vwCl [(cI, .int), (cJ, .long)] U ∧ va_D (fun _ => True) [(h0, .inr (4, [.int xth, .int xnv, .int xna, .ref agbi, .ref agab, .int xtl, .ref aghv, .ref agic, .ref agbe, .int xmk, .ref agmt, .ref agmv, .ref agma, .ref agnd, .ref agre, .ref agse, .ref aglv, .ref agal, .ref agds, .ref agno, .ref agna])), (aghv, .inl (cI, 1920, .inl ghv)), (agic, .inl (cI, 3600, .inl gic)), (agbe, .inl (cI, 3600, .inl gbe)), (agds, .inl (cI, 60, .inl gds))] ∧ nw U)) (va_Qi (fun (r : Int32) (u : Int32 × (Nat → Int32)) => post r (u.1) (u.2)) (fun (u : Int32 × (Nat → Int32)) (t : State) => va_P (dC, dI) vwCl [(h0, .inr (4, [.int (u.1), .int xnv, .int xna, .ref agbi, .ref agab, .int xtl, .ref aghv, .ref agic, .ref agbe, .int xmk, .ref agmt, .ref agmv, .ref agma, .ref agnd, .ref agre, .ref agse, .ref aglv, .ref agal, .ref agds, .ref agno, .ref agna])), (aghv, .inl (cI, 1920, .inl ghv)), (agic, .inl (cI, 3600, .inl gic)), (agbe, .inl (cI, 3600, .inl gbe)), (agds, .inl (cI, 60, .inl (u.2)))] t.heap ∧ va_K (dC, dI) vwCl [(cI, .int), (cJ, .long)] t ∧ va_D (va_A [(h0, .inr (4, [.int xth, .int xnv, .int xna, .ref agbi, .ref agab, .int xtl, .ref aghv, .ref agic, .ref agbe, .int xmk, .ref agmt, .ref agmv, .ref agma, .ref agnd, .ref agre, .ref agse, .ref aglv, .ref agal, .ref agds, .ref agno, .ref agna])), (aghv, .inl (cI, 1920, .inl ghv)), (agic, .inl (cI, 3600, .inl gic)), (agbe, .inl (cI, 3600, .inl gbe)), (agds, .inl (cI, 60, .inl gds))] sz) [(h0, .inr (4, [.int (u.1), .int xnv, .int xna, .ref agbi, .ref agab, .int xtl, .ref aghv, .ref agic, .ref agbe, .int xmk, .ref agmt, .ref agmv, .ref agma, .ref agnd, .ref agre, .ref agse, .ref aglv, .ref agal, .ref agds, .ref agno, .ref agna])), (aghv, .inl (cI, 1920, .inl ghv)), (agic, .inl (cI, 3600, .inl gic)), (agbe, .inl (cI, 3600, .inl gbe)), (agds, .inl (cI, 60, .inl (u.2)))]) (va_A [(h0, .inr (4, [.int xth, .int xnv, .int xna, .ref agbi, .ref agab, .int xtl, .ref aghv, .ref agic, .ref agbe, .int xmk, .ref agmt, .ref agmv, .ref agma, .ref agnd, .ref agre, .ref agse, .ref aglv, .ref agal, .ref agds, .ref agno, .ref agna])), (aghv, .inl (cI, 1920, .inl ghv)), (agic, .inl (cI, 3600, .inl gic)), (agbe, .inl (cI, 3600, .inl gbe)), (agds, .inl (cI, 60, .inl gds))] sz)) 0 0 (va_A [(h0, .inr (4, [.int xth, .int xnv, .int xna, .ref agbi, .ref agab, .int xtl, .ref aghv, .ref agic, .ref agbe, .int xmk, .ref agmt, .ref agmv, .ref agma, .ref agnd, .ref agre, .ref agse, .ref aglv, .ref agal, .ref agds, .ref agno, .ref agna])), (aghv, .inl (cI, 1920, .inl ghv)), (agic, .inl (cI, 3600, .inl gic)), (agbe, .inl (cI, 3600, .inl gbe)), (agds, .inl (cI, 60, .inl gds))] sz) := by
  refine Met.ofW (cc := cX4_way) (maxL := 7) (ret := (some .int)) (by decide) rfl ?_
  intro p e s m args below meth c s₁ B hml hv
  obtain ⟨rfl, hsz, hP, hK, hD0, hN⟩ := hv
  have hx := B.exec
  have hb := B.bytes
  have hr := B.returns
  have hts := atoms_spec (ws := wsX4_way) B.pre
  have hown : s.vm.findClass RX4 = some m.cls := findClass_of_methodNamed B.named
  have hlocks := B.notSynchronized
  subst hsz
  have hD := hD0.self (sz := s.heap.size)
  generalize hAe : va_A [(h0, .inr (4, [.int xth, .int xnv, .int xna, .ref agbi, .ref agab, .int xtl, .ref aghv, .ref agic, .ref agbe, .int xmk, .ref agmt, .ref agmv, .ref agma, .ref agnd, .ref agre, .ref agse, .ref aglv, .ref agal, .ref agds, .ref agno, .ref agna])), (aghv, .inl (cI, 1920, .inl ghv)), (agic, .inl (cI, 3600, .inl gic)), (agbe, .inl (cI, 3600, .inl gbe)), (agds, .inl (cI, 60, .inl gds))] s.heap.size = A at hD ⊢
  have hA : ∀ q : Nat, s.heap.size ≤ q → A q := fun q h => by rw [← hAe]; exact Or.inr h
  have hS : va_S A s.heap s.heap [] := va_S.rf
  have hl := lv_entry ([.ref h0, .int p1, .int p2, .int p3]) (n := 7) (Nat.le_of_ble_eq_true rfl)
  rw [lg_entry_eq]
  generalize (lg_sl ([.ref h0, .int p1, .int p2, .int p3]) ++ List.replicate (7 - (lg_sl ([.ref h0, .int p1, .int p2, .int p3])).length) Slot.unset).toArray = ls at hl ⊢
  replace hl : lv_has ls 7 [(0, .ref h0), (1, .int p1), (2, .int p2), (3, .int p3)] := hl
  have hw0 := (show ∀ w ∈ wsX40, w ∈ wsX4_way from by decide +kernel)
  have hw1 := hts (.fieldLink RX4 50 "EffectNetsModel" "distance" "[I") (by decide +kernel)
  refine hsp _ (fun (xth : Int32) (gds : Nat → Int32) => ∀ (H : Heap) (locs : List Loc) (ls : Array Slot), va_P (dC, dI) vwCl [(h0, .inr (4, [.int xth, .int xnv, .int xna, .ref agbi, .ref agab, .int xtl, .ref aghv, .ref agic, .ref agbe, .int xmk, .ref agmt, .ref agmv, .ref agma, .ref agnd, .ref agre, .ref agse, .ref aglv, .ref agal, .ref agds, .ref agno, .ref agna])), (aghv, .inl (cI, 1920, .inl ghv)), (agic, .inl (cI, 3600, .inl gic)), (agbe, .inl (cI, 3600, .inl gbe)), (agds, .inl (cI, 60, .inl gds))] H → va_D A [(h0, .inr (4, [.int xth, .int xnv, .int xna, .ref agbi, .ref agab, .int xtl, .ref aghv, .ref agic, .ref agbe, .int xmk, .ref agmt, .ref agmv, .ref agma, .ref agnd, .ref agre, .ref agse, .ref aglv, .ref agal, .ref agds, .ref agno, .ref agna])), (aghv, .inl (cI, 1920, .inl ghv)), (agic, .inl (cI, 3600, .inl gic)), (agbe, .inl (cI, 3600, .inl gbe)), (agds, .inl (cI, 60, .inl gds))] → va_S A s.heap H locs → lv_has ls 7 [(0, .ref h0), (1, .int p1), (2, .int p2), (3, .int p3)] → W p l e (headSpec wsX4_way ({ frames := 2, cells := 0, slots := 0, locals := 46 })).room s m (List.toArray [.ref h0, .int p1, .int p2, .int p3]) below meth c H locs 0 0 (MQ below (va_Qi (fun (r : Int32) (u : Int32 × (Nat → Int32)) => post r (u.1) (u.2)) (fun (u : Int32 × (Nat → Int32)) (t : State) => va_P (dC, dI) vwCl [(h0, .inr (4, [.int (u.1), .int xnv, .int xna, .ref agbi, .ref agab, .int xtl, .ref aghv, .ref agic, .ref agbe, .int xmk, .ref agmt, .ref agmv, .ref agma, .ref agnd, .ref agre, .ref agse, .ref aglv, .ref agal, .ref agds, .ref agno, .ref agna])), (aghv, .inl (cI, 1920, .inl ghv)), (agic, .inl (cI, 3600, .inl gic)), (agbe, .inl (cI, 3600, .inl gbe)), (agds, .inl (cI, 60, .inl (u.2)))] t.heap ∧ va_K (dC, dI) vwCl [(cI, .int), (cJ, .long)] t ∧ va_D A [(h0, .inr (4, [.int (u.1), .int xnv, .int xna, .ref agbi, .ref agab, .int xtl, .ref aghv, .ref agic, .ref agbe, .int xmk, .ref agmt, .ref agmv, .ref agma, .ref agnd, .ref agre, .ref agse, .ref aglv, .ref agal, .ref agds, .ref agno, .ref agna])), (aghv, .inl (cI, 1920, .inl ghv)), (agic, .inl (cI, 3600, .inl gic)), (agbe, .inl (cI, 3600, .inl gbe)), (agds, .inl (cI, 60, .inl (u.2)))]) A) (List.toArray [.ref h0, .int p1, .int p2, .int p3]) s 0 0 A) (F0 m 31 ls [])) (fun (x4 : Int32) (x5 : Int32) (xth : Int32) (gds : Nat → Int32) => ∀ (H : Heap) (locs : List Loc) (ls : Array Slot), va_P (dC, dI) vwCl [(h0, .inr (4, [.int xth, .int xnv, .int xna, .ref agbi, .ref agab, .int xtl, .ref aghv, .ref agic, .ref agbe, .int xmk, .ref agmt, .ref agmv, .ref agma, .ref agnd, .ref agre, .ref agse, .ref aglv, .ref agal, .ref agds, .ref agno, .ref agna])), (aghv, .inl (cI, 1920, .inl ghv)), (agic, .inl (cI, 3600, .inl gic)), (agbe, .inl (cI, 3600, .inl gbe)), (agds, .inl (cI, 60, .inl gds))] H → va_D A [(h0, .inr (4, [.int xth, .int xnv, .int xna, .ref agbi, .ref agab, .int xtl, .ref aghv, .ref agic, .ref agbe, .int xmk, .ref agmt, .ref agmv, .ref agma, .ref agnd, .ref agre, .ref agse, .ref aglv, .ref agal, .ref agds, .ref agno, .ref agna])), (aghv, .inl (cI, 1920, .inl ghv)), (agic, .inl (cI, 3600, .inl gic)), (agbe, .inl (cI, 3600, .inl gbe)), (agds, .inl (cI, 60, .inl gds))] → va_S A s.heap H locs → lv_has ls 7 [(0, .ref h0), (3, .int p3), (4, .int x4), (5, .int x5)] → W p l e (headSpec wsX4_way ({ frames := 2, cells := 0, slots := 0, locals := 46 })).room s m (List.toArray [.ref h0, .int p1, .int p2, .int p3]) below meth c H locs 0 0 (MQ below (va_Qi (fun (r : Int32) (u : Int32 × (Nat → Int32)) => post r (u.1) (u.2)) (fun (u : Int32 × (Nat → Int32)) (t : State) => va_P (dC, dI) vwCl [(h0, .inr (4, [.int (u.1), .int xnv, .int xna, .ref agbi, .ref agab, .int xtl, .ref aghv, .ref agic, .ref agbe, .int xmk, .ref agmt, .ref agmv, .ref agma, .ref agnd, .ref agre, .ref agse, .ref aglv, .ref agal, .ref agds, .ref agno, .ref agna])), (aghv, .inl (cI, 1920, .inl ghv)), (agic, .inl (cI, 3600, .inl gic)), (agbe, .inl (cI, 3600, .inl gbe)), (agds, .inl (cI, 60, .inl (u.2)))] t.heap ∧ va_K (dC, dI) vwCl [(cI, .int), (cJ, .long)] t ∧ va_D A [(h0, .inr (4, [.int (u.1), .int xnv, .int xna, .ref agbi, .ref agab, .int xtl, .ref aghv, .ref agic, .ref agbe, .int xmk, .ref agmt, .ref agmv, .ref agma, .ref agnd, .ref agre, .ref agse, .ref aglv, .ref agal, .ref agds, .ref agno, .ref agna])), (aghv, .inl (cI, 1920, .inl ghv)), (agic, .inl (cI, 3600, .inl gic)), (agbe, .inl (cI, 3600, .inl gbe)), (agds, .inl (cI, 60, .inl (u.2)))]) A) (List.toArray [.ref h0, .int p1, .int p2, .int p3]) s 0 0 A) (F0 m 70 ls [])) (fun (x4 : Int32) (x5 : Int32) (x6 : Int32) (xth : Int32) (gds : Nat → Int32) => ∀ (H : Heap) (locs : List Loc) (ls : Array Slot), va_P (dC, dI) vwCl [(h0, .inr (4, [.int xth, .int xnv, .int xna, .ref agbi, .ref agab, .int xtl, .ref aghv, .ref agic, .ref agbe, .int xmk, .ref agmt, .ref agmv, .ref agma, .ref agnd, .ref agre, .ref agse, .ref aglv, .ref agal, .ref agds, .ref agno, .ref agna])), (aghv, .inl (cI, 1920, .inl ghv)), (agic, .inl (cI, 3600, .inl gic)), (agbe, .inl (cI, 3600, .inl gbe)), (agds, .inl (cI, 60, .inl gds))] H → va_D A [(h0, .inr (4, [.int xth, .int xnv, .int xna, .ref agbi, .ref agab, .int xtl, .ref aghv, .ref agic, .ref agbe, .int xmk, .ref agmt, .ref agmv, .ref agma, .ref agnd, .ref agre, .ref agse, .ref aglv, .ref agal, .ref agds, .ref agno, .ref agna])), (aghv, .inl (cI, 1920, .inl ghv)), (agic, .inl (cI, 3600, .inl gic)), (agbe, .inl (cI, 3600, .inl gbe)), (agds, .inl (cI, 60, .inl gds))] → va_S A s.heap H locs → lv_has ls 7 [(0, .ref h0), (3, .int p3), (4, .int x4), (5, .int x5), (6, .int x6)] → W p l e (headSpec wsX4_way ({ frames := 2, cells := 0, slots := 0, locals := 46 })).room s m (List.toArray [.ref h0, .int p1, .int p2, .int p3]) below meth c H locs 0 0 (MQ below (va_Qi (fun (r : Int32) (u : Int32 × (Nat → Int32)) => post r (u.1) (u.2)) (fun (u : Int32 × (Nat → Int32)) (t : State) => va_P (dC, dI) vwCl [(h0, .inr (4, [.int (u.1), .int xnv, .int xna, .ref agbi, .ref agab, .int xtl, .ref aghv, .ref agic, .ref agbe, .int xmk, .ref agmt, .ref agmv, .ref agma, .ref agnd, .ref agre, .ref agse, .ref aglv, .ref agal, .ref agds, .ref agno, .ref agna])), (aghv, .inl (cI, 1920, .inl ghv)), (agic, .inl (cI, 3600, .inl gic)), (agbe, .inl (cI, 3600, .inl gbe)), (agds, .inl (cI, 60, .inl (u.2)))] t.heap ∧ va_K (dC, dI) vwCl [(cI, .int), (cJ, .long)] t ∧ va_D A [(h0, .inr (4, [.int (u.1), .int xnv, .int xna, .ref agbi, .ref agab, .int xtl, .ref aghv, .ref agic, .ref agbe, .int xmk, .ref agmt, .ref agmv, .ref agma, .ref agnd, .ref agre, .ref agse, .ref aglv, .ref agal, .ref agds, .ref agno, .ref agna])), (aghv, .inl (cI, 1920, .inl ghv)), (agic, .inl (cI, 3600, .inl gic)), (agbe, .inl (cI, 3600, .inl gbe)), (agds, .inl (cI, 60, .inl (u.2)))]) A) (List.toArray [.ref h0, .int p1, .int p2, .int p3]) s 0 0 A) (F0 m 79 ls [])) ?_ ?_ ?_ ?_
  · intro xth gds ht H locs ls hP hD hS hl
    refine lv_aload_n hx hb dX4_way_31 rfl (lv_at hl 0 rfl) ?_
    refine lv_iload_n hx hb dX4_way_32 rfl (lv_at hl 2 rfl) ?_
    have hPc := hP.sub (ws' := [(h0, .inr (4, [.int xth, .int xnv, .int xna, .ref agbi, .ref agab, .int xtl, .ref aghv, .ref agic, .ref agbe, .int xmk, .ref agmt, .ref agmv, .ref agma, .ref agnd, .ref agre, .ref agse, .ref aglv, .ref agal, .ref agds, .ref agno, .ref agna])), (aghv, .inl (cI, 1920, .inl ghv)), (agic, .inl (cI, 3600, .inl gic)), (agbe, .inl (cI, 3600, .inl gbe)), (agds, .inl (cI, 60, .inl gds))]) [0, 1, 2, 3, 4] rfl
    have hDc := hD.sub (ws' := [(h0, .inr (4, [.int xth, .int xnv, .int xna, .ref agbi, .ref agab, .int xtl, .ref aghv, .ref agic, .ref agbe, .int xmk, .ref agmt, .ref agmv, .ref agma, .ref agnd, .ref agre, .ref agse, .ref aglv, .ref agal, .ref agds, .ref agno, .ref agna])), (aghv, .inl (cI, 1920, .inl ghv)), (agic, .inl (cI, 3600, .inl gic)), (agbe, .inl (cI, 3600, .inl gbe)), (agds, .inl (cI, 60, .inl gds))]) [0, 1, 2, 3, 4] (by decide) rfl
    have hFc := va_free (wc := [(h0, .inr (4, [.int xth, .int xnv, .int xna, .ref agbi, .ref agab, .int xtl, .ref aghv, .ref agic, .ref agbe, .int xmk, .ref agmt, .ref agmv, .ref agma, .ref agnd, .ref agre, .ref agse, .ref aglv, .ref agal, .ref agds, .ref agno, .ref agna])), (aghv, .inl (cI, 1920, .inl ghv)), (agic, .inl (cI, 3600, .inl gic)), (agbe, .inl (cI, 3600, .inl gbe)), (agds, .inl (cI, 60, .inl gds))]) hD hS hA [0, 1, 2, 3, 4] rfl
    refine va_callv (va_runV (As := [.int p2]) (rest := []) ⟨hx, hb, hml, hown, hts⟩ (c_X4_findDistances l dC dI cI cJ h0 agbi agab aghv agic agbe agmt agmv agma agnd agre agse aglv agal agds agno agna xth xnv xna xtl xmk ghv gic gbe gds H.size p2 _ ht) (cwV 1 hts gX4_way_X4_findDistances rfl rfl rfl (by decide +kernel) ⟨Nat.le_of_ble_eq_true rfl, Nat.le_of_ble_eq_true rfl⟩) ⟨fun a U g mk q => by obtain ⟨q0, q1, qP, qK, qD, qN⟩ := q; exact ⟨q0, q1, qP, va_K.moved (u := U) (U := U.calling g mk a) (Vm.Alike.refl U.vm) qK, qD, nw_same rfl qN⟩, va_recv hK hP (ci := 4) (q0 := 0) rfl rfl, fun U hU hW => ⟨rfl, by rw [hU], by rw [hU]; exact hPc, va_K.moved hW.alike hK, hDc.weaken (fun _ _ _ _ => trivial), nw_warm hW hN⟩⟩ rfl rfl hl.1 rfl (lv_room (Nat.le_of_ble_eq_true rfl)) dX4_way_33 ⟨Nat.le_of_ble_eq_true rfl, Nat.le_of_ble_eq_true rfl⟩) hS (fun q _ h => hFc q h) hFc (fun u t H1 locs ht9 hvm hw hB hz1 hk1 hS => ?_)
    obtain ⟨gds_2, rfl⟩ : ∃ z, z = u := ⟨_, rfl⟩
    obtain ⟨hP1, hK1, hD1⟩ := hB
    rw [ht9] at hP1
    try dsimp only at hw
    replace ht := hw
    obtain ⟨hP, hD⟩ := va_join (wr := []) (w1 := [(h0, .inr (4, [.int xth, .int xnv, .int xna, .ref agbi, .ref agab, .int xtl, .ref aghv, .ref agic, .ref agbe, .int xmk, .ref agmt, .ref agmv, .ref agma, .ref agnd, .ref agre, .ref agse, .ref aglv, .ref agal, .ref agds, .ref agno, .ref agna])), (aghv, .inl (cI, 1920, .inl ghv)), (agic, .inl (cI, 3600, .inl gic)), (agbe, .inl (cI, 3600, .inl gbe)), (agds, .inl (cI, 60, .inl gds_2))]) hP hD [0, 1, 2, 3, 4] [] rfl rfl (by decide) (by decide) hk1 hFc hP1 hD1
    generalize H1 = H at hP hS ⊢
    replace hP : va_P (dC, dI) vwCl [(h0, .inr (4, [.int xth, .int xnv, .int xna, .ref agbi, .ref agab, .int xtl, .ref aghv, .ref agic, .ref agbe, .int xmk, .ref agmt, .ref agmv, .ref agma, .ref agnd, .ref agre, .ref agse, .ref aglv, .ref agal, .ref agds, .ref agno, .ref agna])), (aghv, .inl (cI, 1920, .inl ghv)), (agic, .inl (cI, 3600, .inl gic)), (agbe, .inl (cI, 3600, .inl gbe)), (agds, .inl (cI, 60, .inl gds_2))] H := hP
    replace hD : va_D A [(h0, .inr (4, [.int xth, .int xnv, .int xna, .ref agbi, .ref agab, .int xtl, .ref aghv, .ref agic, .ref agbe, .int xmk, .ref agmt, .ref agmv, .ref agma, .ref agnd, .ref agre, .ref agse, .ref aglv, .ref agal, .ref agds, .ref agno, .ref agna])), (aghv, .inl (cI, 1920, .inl ghv)), (agic, .inl (cI, 3600, .inl gic)), (agbe, .inl (cI, 3600, .inl gbe)), (agds, .inl (cI, 60, .inl gds_2))] := hD
    refine lv_iload_n hx hb dX4_way_36 rfl (lv_at hl 3 rfl) ?_
    refine lv_iconst (v := (-1)) hx hb dX4_way_37 (by decide) ?_
    refine lv_icmp_ne (tgt := 48) hx hb dX4_way_38 (by decide) (fun c3 => ?_) (fun c3 => ?_)
    · replace ht := ht.1 c3
      refine lv_iload_n hx hb dX4_way_48 rfl (lv_at hl 3 rfl) ?_
      refine lv_if_lt (tgt := 62) hx hb dX4_way_49 (by decide) (fun c4 => ?_) (fun c4 => ?_)
      · replace ht := ht.1 c4
        refine lv_iconst (v := (-1)) hx hb dX4_way_62 (by decide) ?_
        have hP9 : va_P (dC, dI) vwCl [(h0, .inr (4, [.int xth, .int xnv, .int xna, .ref agbi, .ref agab, .int xtl, .ref aghv, .ref agic, .ref agbe, .int xmk, .ref agmt, .ref agmv, .ref agma, .ref agnd, .ref agre, .ref agse, .ref aglv, .ref agal, .ref agds, .ref agno, .ref agna])), (aghv, .inl (cI, 1920, .inl ghv)), (agic, .inl (cI, 3600, .inl gic)), (agbe, .inl (cI, 3600, .inl gbe)), (agds, .inl (cI, 60, .inl gds_2))] _ := hP
        have hD9 : va_D A [(h0, .inr (4, [.int xth, .int xnv, .int xna, .ref agbi, .ref agab, .int xtl, .ref aghv, .ref agic, .ref agbe, .int xmk, .ref agmt, .ref agmv, .ref agma, .ref agnd, .ref agre, .ref agse, .ref aglv, .ref agal, .ref agds, .ref agno, .ref agna])), (aghv, .inl (cI, 1920, .inl ghv)), (agic, .inl (cI, 3600, .inl gic)), (agbe, .inl (cI, 3600, .inl gbe)), (agds, .inl (cI, 60, .inl gds_2))] := hD
        exact W.iret (v := (-1)) hx hb hr (fun t ht9 hW => ⟨⟨(-1), (xth, gds_2), rfl, ht, by rw [ht9]; exact hP9, va_K.moved hW.alike hK, hD9⟩, hS.F ht9⟩) hS.2.2 dX4_way_63
      · replace ht := ht.2 c4
        refine lv_iload_n hx hb dX4_way_52 rfl (lv_at hl 3 rfl) ?_
        refine lv_aload_n hx hb dX4_way_53 rfl (lv_at hl 0 rfl) ?_
        refine va_get (D := (dC, dI)) (ci := 4) (v := .ref agds) (C := RX4) (T := TX4) (N := 21) hx hb hts hw0 hown hK hP 0 rfl rfl 18 (by decide) hw1 (fun _ h9 => h9) rfl dX4_way_54 ?_
        refine lv_iload_n hx hb dX4_way_57 rfl (lv_at hl 1 rfl) ?_
        obtain ⟨i5, ht⟩ := ht
        refine va_iald hx hb hK hP 4 0 rfl rfl i5 dX4_way_58 ?_
        refine lv_icmp_lt (tgt := 64) hx hb dX4_way_59 (by decide) (fun c6 => ?_) (fun c6 => ?_)
        · replace ht := ht.1 c6
          refine lv_iload_n hx hb dX4_way_64 rfl (lv_at hl 1 rfl) ?_
          refine lv_istore (lv' := [(4, .int p1), (0, .ref h0), (1, .int p1), (2, .int p2), (3, .int p3)]) hx hb dX4_way_65 hl (by decide) rfl (fun ls hl => ?_)
          refine lv_iconst (v := 0) hx hb dX4_way_67 (by decide) ?_
          refine lv_istore (lv' := [(5, .int 0), (4, .int p1), (0, .ref h0), (1, .int p1), (2, .int p2), (3, .int p3)]) hx hb dX4_way_68 hl (by decide) rfl (fun ls hl => ?_)
          exact ht _ _ _ hP hD hS (lv_sub hl [2, 5, 1, 0] rfl)
        · replace ht := ht.2 c6
          refine lv_iconst (v := (-1)) hx hb dX4_way_62 (by decide) ?_
          have hP9 : va_P (dC, dI) vwCl [(h0, .inr (4, [.int xth, .int xnv, .int xna, .ref agbi, .ref agab, .int xtl, .ref aghv, .ref agic, .ref agbe, .int xmk, .ref agmt, .ref agmv, .ref agma, .ref agnd, .ref agre, .ref agse, .ref aglv, .ref agal, .ref agds, .ref agno, .ref agna])), (aghv, .inl (cI, 1920, .inl ghv)), (agic, .inl (cI, 3600, .inl gic)), (agbe, .inl (cI, 3600, .inl gbe)), (agds, .inl (cI, 60, .inl gds_2))] _ := hP
          have hD9 : va_D A [(h0, .inr (4, [.int xth, .int xnv, .int xna, .ref agbi, .ref agab, .int xtl, .ref aghv, .ref agic, .ref agbe, .int xmk, .ref agmt, .ref agmv, .ref agma, .ref agnd, .ref agre, .ref agse, .ref aglv, .ref agal, .ref agds, .ref agno, .ref agna])), (aghv, .inl (cI, 1920, .inl ghv)), (agic, .inl (cI, 3600, .inl gic)), (agbe, .inl (cI, 3600, .inl gbe)), (agds, .inl (cI, 60, .inl gds_2))] := hD
          exact W.iret (v := (-1)) hx hb hr (fun t ht9 hW => ⟨⟨(-1), (xth, gds_2), rfl, ht, by rw [ht9]; exact hP9, va_K.moved hW.alike hK, hD9⟩, hS.F ht9⟩) hS.2.2 dX4_way_63
    · replace ht := ht.2 c3
      refine lv_aload_n hx hb dX4_way_41 rfl (lv_at hl 0 rfl) ?_
      refine va_get (D := (dC, dI)) (ci := 4) (v := .ref agds) (C := RX4) (T := TX4) (N := 21) hx hb hts hw0 hown hK hP 0 rfl rfl 18 (by decide) hw1 (fun _ h9 => h9) rfl dX4_way_42 ?_
      refine lv_iload_n hx hb dX4_way_45 rfl (lv_at hl 1 rfl) ?_
      obtain ⟨i7, ht⟩ := ht
      refine va_iald hx hb hK hP 4 0 rfl rfl i7 dX4_way_46 ?_
      have hP9 : va_P (dC, dI) vwCl [(h0, .inr (4, [.int xth, .int xnv, .int xna, .ref agbi, .ref agab, .int xtl, .ref aghv, .ref agic, .ref agbe, .int xmk, .ref agmt, .ref agmv, .ref agma, .ref agnd, .ref agre, .ref agse, .ref aglv, .ref agal, .ref agds, .ref agno, .ref agna])), (aghv, .inl (cI, 1920, .inl ghv)), (agic, .inl (cI, 3600, .inl gic)), (agbe, .inl (cI, 3600, .inl gbe)), (agds, .inl (cI, 60, .inl gds_2))] _ := hP
      have hD9 : va_D A [(h0, .inr (4, [.int xth, .int xnv, .int xna, .ref agbi, .ref agab, .int xtl, .ref aghv, .ref agic, .ref agbe, .int xmk, .ref agmt, .ref agmv, .ref agma, .ref agnd, .ref agre, .ref agse, .ref aglv, .ref agal, .ref agds, .ref agno, .ref agna])), (aghv, .inl (cI, 1920, .inl ghv)), (agic, .inl (cI, 3600, .inl gic)), (agbe, .inl (cI, 3600, .inl gbe)), (agds, .inl (cI, 60, .inl gds_2))] := hD
      exact W.iret (v := (gds_2 p1.toNatClampNeg)) hx hb hr (fun t ht9 hW => ⟨⟨(gds_2 p1.toNatClampNeg), (xth, gds_2), rfl, ht, by rw [ht9]; exact hP9, va_K.moved hW.alike hK, hD9⟩, hS.F ht9⟩) hS.2.2 dX4_way_47
  · intro x4 x5 xth gds ht H locs ls hP hD hS hl
    refine lv_iload hx hb dX4_way_70 (lv_at hl 3 rfl) ?_
    refine lv_iload_n hx hb dX4_way_72 rfl (lv_at hl 1 rfl) ?_
    refine lv_icmp_ge (tgt := 125) hx hb dX4_way_73 (by decide) (fun c8 => ?_) (fun c8 => ?_)
    · replace ht := ht.1 c8
      refine lv_iload hx hb dX4_way_125 (lv_at hl 2 rfl) ?_
      have hP9 : va_P (dC, dI) vwCl [(h0, .inr (4, [.int xth, .int xnv, .int xna, .ref agbi, .ref agab, .int xtl, .ref aghv, .ref agic, .ref agbe, .int xmk, .ref agmt, .ref agmv, .ref agma, .ref agnd, .ref agre, .ref agse, .ref aglv, .ref agal, .ref agds, .ref agno, .ref agna])), (aghv, .inl (cI, 1920, .inl ghv)), (agic, .inl (cI, 3600, .inl gic)), (agbe, .inl (cI, 3600, .inl gbe)), (agds, .inl (cI, 60, .inl gds))] _ := hP
      have hD9 : va_D A [(h0, .inr (4, [.int xth, .int xnv, .int xna, .ref agbi, .ref agab, .int xtl, .ref aghv, .ref agic, .ref agbe, .int xmk, .ref agmt, .ref agmv, .ref agma, .ref agnd, .ref agre, .ref agse, .ref aglv, .ref agal, .ref agds, .ref agno, .ref agna])), (aghv, .inl (cI, 1920, .inl ghv)), (agic, .inl (cI, 3600, .inl gic)), (agbe, .inl (cI, 3600, .inl gbe)), (agds, .inl (cI, 60, .inl gds))] := hD
      exact W.iret (v := x4) hx hb hr (fun t ht9 hW => ⟨⟨x4, (xth, gds), rfl, ht, by rw [ht9]; exact hP9, va_K.moved hW.alike hK, hD9⟩, hS.F ht9⟩) hS.2.2 dX4_way_127
    · replace ht := ht.2 c8
      refine lv_iconst (v := 0) hx hb dX4_way_76 (by decide) ?_
      refine lv_istore (lv' := [(6, .int 0), (0, .ref h0), (3, .int p3), (4, .int x4), (5, .int x5)]) hx hb dX4_way_77 hl (by decide) rfl (fun ls hl => ?_)
      exact ht _ _ _ hP hD hS (lv_sub hl [1, 2, 3, 4, 0] rfl)
  · intro x4 x5 x6 xth gds ht H locs ls hP hD hS hl
    refine lv_aload_n hx hb dX4_way_79 rfl (lv_at hl 0 rfl) ?_
    refine lv_iload hx hb dX4_way_80 (lv_at hl 2 rfl) ?_
    refine lv_iload hx hb dX4_way_82 (lv_at hl 4 rfl) ?_
    have hPc := hP.sub (ws' := [(h0, .inr (4, [.int xth, .int xnv, .int xna, .ref agbi, .ref agab, .int xtl, .ref aghv, .ref agic, .ref agbe, .int xmk, .ref agmt, .ref agmv, .ref agma, .ref agnd, .ref agre, .ref agse, .ref aglv, .ref agal, .ref agds, .ref agno, .ref agna])), (agic, .inl (cI, 3600, .inl gic)), (agbe, .inl (cI, 3600, .inl gbe))]) [0, 2, 3] rfl
    have hDc := hD.sub (ws' := [(h0, .inr (4, [.int xth, .int xnv, .int xna, .ref agbi, .ref agab, .int xtl, .ref aghv, .ref agic, .ref agbe, .int xmk, .ref agmt, .ref agmv, .ref agma, .ref agnd, .ref agre, .ref agse, .ref aglv, .ref agal, .ref agds, .ref agno, .ref agna])), (agic, .inl (cI, 3600, .inl gic)), (agbe, .inl (cI, 3600, .inl gbe))]) [0, 2, 3] (by decide) rfl
    have hFc := va_free (wc := [(h0, .inr (4, [.int xth, .int xnv, .int xna, .ref agbi, .ref agab, .int xtl, .ref aghv, .ref agic, .ref agbe, .int xmk, .ref agmt, .ref agmv, .ref agma, .ref agnd, .ref agre, .ref agse, .ref aglv, .ref agal, .ref agds, .ref agno, .ref agna])), (agic, .inl (cI, 3600, .inl gic)), (agbe, .inl (cI, 3600, .inl gbe))]) hD hS hA [0, 2, 3] rfl
    refine va_calli (va_runV (As := [.int x4, .int x6]) (rest := []) ⟨hx, hb, hml, hown, hts⟩ (c_X4_leads l dC dI cI cJ h0 agbi agab aghv agic agbe agmt agmv agma agnd agre agse aglv agal agds agno agna xth xnv xna xtl xmk gic gbe H.size x4 x6 _ ht) (cwV 2 hts gX4_way_X4_leads rfl rfl rfl (by decide +kernel) ⟨Nat.le_of_ble_eq_true rfl, Nat.le_of_ble_eq_true rfl⟩) ⟨fun a U g mk q => by obtain ⟨q0, q1, qP, qK, qD, qN⟩ := q; exact ⟨q0, q1, qP, va_K.moved (u := U) (U := U.calling g mk a) (Vm.Alike.refl U.vm) qK, qD, nw_same rfl qN⟩, va_recv hK hP (ci := 4) (q0 := 0) rfl rfl, fun U hU hW => ⟨rfl, by rw [hU], by rw [hU]; exact hPc, va_K.moved hW.alike hK, hDc.weaken (fun _ _ _ _ => trivial), nw_warm hW hN⟩⟩ rfl rfl hl.1 rfl (lv_room (Nat.le_of_ble_eq_true rfl)) dX4_way_84 ⟨Nat.le_of_ble_eq_true rfl, Nat.le_of_ble_eq_true rfl⟩) hS (fun q _ h => hFc q h) hFc (fun r9 u t H1 locs ht9 hvm hw hB hz1 hk1 hS => ?_)
    obtain ⟨hP1, hK1, hD1⟩ := hB
    rw [ht9] at hP1
    try dsimp only at hw
    replace ht := hw
    obtain ⟨hP, hD⟩ := va_join (wr := [(aghv, .inl (cI, 1920, .inl ghv)), (agds, .inl (cI, 60, .inl gds))]) (w1 := [(h0, .inr (4, [.int xth, .int xnv, .int xna, .ref agbi, .ref agab, .int xtl, .ref aghv, .ref agic, .ref agbe, .int xmk, .ref agmt, .ref agmv, .ref agma, .ref agnd, .ref agre, .ref agse, .ref aglv, .ref agal, .ref agds, .ref agno, .ref agna])), (agic, .inl (cI, 3600, .inl gic)), (agbe, .inl (cI, 3600, .inl gbe))]) hP hD [0, 2, 3] [1, 4] rfl rfl (by decide) (by decide) hk1 hFc hP1 hD1
    generalize H1 = H at hP hS ⊢
    replace hP : va_P (dC, dI) vwCl [(aghv, .inl (cI, 1920, .inl ghv)), (agds, .inl (cI, 60, .inl gds)), (h0, .inr (4, [.int xth, .int xnv, .int xna, .ref agbi, .ref agab, .int xtl, .ref aghv, .ref agic, .ref agbe, .int xmk, .ref agmt, .ref agmv, .ref agma, .ref agnd, .ref agre, .ref agse, .ref aglv, .ref agal, .ref agds, .ref agno, .ref agna])), (agic, .inl (cI, 3600, .inl gic)), (agbe, .inl (cI, 3600, .inl gbe))] H := hP
    replace hD : va_D A [(aghv, .inl (cI, 1920, .inl ghv)), (agds, .inl (cI, 60, .inl gds)), (h0, .inr (4, [.int xth, .int xnv, .int xna, .ref agbi, .ref agab, .int xtl, .ref aghv, .ref agic, .ref agbe, .int xmk, .ref agmt, .ref agmv, .ref agma, .ref agnd, .ref agre, .ref agse, .ref aglv, .ref agal, .ref agds, .ref agno, .ref agna])), (agic, .inl (cI, 3600, .inl gic)), (agbe, .inl (cI, 3600, .inl gbe))] := hD
    refine lv_if_eq (tgt := 109) hx hb dX4_way_87 (by decide) (fun c10 => ?_) (fun c10 => ?_)
    · replace ht := ht.1 c10
      obtain ⟨y11, ey11⟩ : ∃ y : Int32, y = x6 + 1 := ⟨_, rfl⟩
      replace ht := ht y11 ey11
      refine lv_iinc (v := y11) (lv' := [(6, .int y11), (0, .ref h0), (3, .int p3), (4, .int x4), (5, .int x5)]) hx hb dX4_way_109 hl (k := 4) rfl (by rw [ey11]; rfl) (by decide) rfl (fun ls hl => ?_)
      refine lv_goto (tgt := 79) hx hb dX4_way_112 (by decide) ?_
      exact ht _ _ _ (hP.sub [2, 0, 3, 4, 1] rfl) (hD.sub [2, 0, 3, 4, 1] (by decide) rfl) hS (lv_sub hl [1, 2, 3, 4, 0] rfl)
    · replace ht := ht.2 c10
      refine lv_aload_n hx hb dX4_way_90 rfl (lv_at hl 0 rfl) ?_
      refine va_get (D := (dC, dI)) (ci := 4) (v := .ref agds) (C := RX4) (T := TX4) (N := 21) hx hb hts hw0 hown hK hP 2 rfl rfl 18 (by decide) hw1 (fun _ h9 => h9) rfl dX4_way_91 ?_
      refine lv_iload hx hb dX4_way_94 (lv_at hl 4 rfl) ?_
      obtain ⟨i12, ht⟩ := ht
      refine va_iald hx hb hK hP 1 0 rfl rfl i12 dX4_way_96 ?_
      refine lv_aload_n hx hb dX4_way_97 rfl (lv_at hl 0 rfl) ?_
      refine va_get (D := (dC, dI)) (ci := 4) (v := .ref agds) (C := RX4) (T := TX4) (N := 21) hx hb hts hw0 hown hK hP 2 rfl rfl 18 (by decide) hw1 (fun _ h9 => h9) rfl dX4_way_98 ?_
      refine lv_iload hx hb dX4_way_101 (lv_at hl 2 rfl) ?_
      obtain ⟨i13, ht⟩ := ht
      refine va_iald hx hb hK hP 1 0 rfl rfl i13 dX4_way_103 ?_
      refine lv_iconst (v := 1) hx hb dX4_way_104 (by decide) ?_
      refine lv_isub hx hb dX4_way_105 ?_
      refine lv_icmp_eq (tgt := 115) hx hb dX4_way_106 (by decide) (fun c14 => ?_) (fun c14 => ?_)
      · replace ht := ht.1 c14
        refine lv_iload hx hb dX4_way_115 (lv_at hl 4 rfl) ?_
        refine lv_istore (lv' := [(4, .int x6), (0, .ref h0), (3, .int p3), (5, .int x5), (6, .int x6)]) hx hb dX4_way_117 hl (by decide) rfl (fun ls hl => ?_)
        obtain ⟨y15, ey15⟩ : ∃ y : Int32, y = x5 + 1 := ⟨_, rfl⟩
        replace ht := ht y15 ey15
        refine lv_iinc (v := y15) (lv' := [(5, .int y15), (4, .int x6), (0, .ref h0), (3, .int p3), (6, .int x6)]) hx hb dX4_way_119 hl (k := 3) rfl (by rw [ey15]; rfl) (by decide) rfl (fun ls hl => ?_)
        refine lv_goto (tgt := 70) hx hb dX4_way_122 (by decide) ?_
        exact ht _ _ _ (hP.sub [2, 0, 3, 4, 1] rfl) (hD.sub [2, 0, 3, 4, 1] (by decide) rfl) hS (lv_sub hl [2, 3, 1, 0] rfl)
      · replace ht := ht.2 c14
        obtain ⟨y16, ey16⟩ : ∃ y : Int32, y = x6 + 1 := ⟨_, rfl⟩
        replace ht := ht y16 ey16
        refine lv_iinc (v := y16) (lv' := [(6, .int y16), (0, .ref h0), (3, .int p3), (4, .int x4), (5, .int x5)]) hx hb dX4_way_109 hl (k := 4) rfl (by rw [ey16]; rfl) (by decide) rfl (fun ls hl => ?_)
        refine lv_goto (tgt := 79) hx hb dX4_way_112 (by decide) ?_
        exact ht _ _ _ (hP.sub [2, 0, 3, 4, 1] rfl) (hD.sub [2, 0, 3, 4, 1] (by decide) rfl) hS (lv_sub hl [1, 2, 3, 4, 0] rfl)
  · intro ht
    refine lv_aload_n hx hb dX4_way_0 rfl (lv_at hl 0 rfl) ?_
    refine lv_aload_n hx hb dX4_way_1 rfl (lv_at hl 0 rfl) ?_
    refine lv_iload_n hx hb dX4_way_2 rfl (lv_at hl 1 rfl) ?_
    have hPc := hP.sub (ws' := [(h0, .inr (4, [.int xth, .int xnv, .int xna, .ref agbi, .ref agab, .int xtl, .ref aghv, .ref agic, .ref agbe, .int xmk, .ref agmt, .ref agmv, .ref agma, .ref agnd, .ref agre, .ref agse, .ref aglv, .ref agal, .ref agds, .ref agno, .ref agna]))]) [0] rfl
    have hDc := hD.sub (ws' := [(h0, .inr (4, [.int xth, .int xnv, .int xna, .ref agbi, .ref agab, .int xtl, .ref aghv, .ref agic, .ref agbe, .int xmk, .ref agmt, .ref agmv, .ref agma, .ref agnd, .ref agre, .ref agse, .ref aglv, .ref agal, .ref agds, .ref agno, .ref agna]))]) [0] (by decide) rfl
    have hFc := va_free (wc := [(h0, .inr (4, [.int xth, .int xnv, .int xna, .ref agbi, .ref agab, .int xtl, .ref aghv, .ref agic, .ref agbe, .int xmk, .ref agmt, .ref agmv, .ref agma, .ref agnd, .ref agre, .ref agse, .ref aglv, .ref agal, .ref agds, .ref agno, .ref agna]))]) hD hS hA [0] rfl
    refine va_calli (va_runV (As := [.int p1]) (rest := [.ref h0]) ⟨hx, hb, hml, hown, hts⟩ (c_X4_isVariable l dC dI cI cJ h0 agbi agab aghv agic agbe agmt agmv agma agnd agre agse aglv agal agds agno agna xth xnv xna xtl xmk s.heap.size p1 _ ht) (cwV 1 hts gX4_way_X4_isVariable rfl rfl rfl (by decide +kernel) ⟨Nat.le_of_ble_eq_true rfl, Nat.le_of_ble_eq_true rfl⟩) ⟨fun a U g mk q => by obtain ⟨q0, q1, qP, qK, qD, qN⟩ := q; exact ⟨q0, q1, qP, va_K.moved (u := U) (U := U.calling g mk a) (Vm.Alike.refl U.vm) qK, qD, nw_same rfl qN⟩, va_recv hK hP (ci := 4) (q0 := 0) rfl rfl, fun U hU hW => ⟨rfl, by rw [hU], by rw [hU]; exact hPc, va_K.moved hW.alike hK, hDc.weaken (fun _ _ _ _ => trivial), nw_warm hW hN⟩⟩ rfl rfl hl.1 rfl (lv_room (Nat.le_of_ble_eq_true rfl)) dX4_way_3 ⟨Nat.le_of_ble_eq_true rfl, Nat.le_of_ble_eq_true rfl⟩) hS (fun q _ h => hFc q h) hFc (fun r17 u t H1 locs ht9 hvm hw hB hz1 hk1 hS => ?_)
    obtain ⟨hP1, hK1, hD1⟩ := hB
    rw [ht9] at hP1
    try dsimp only at hw
    replace ht := hw
    obtain ⟨hP, hD⟩ := va_join (wr := [(aghv, .inl (cI, 1920, .inl ghv)), (agic, .inl (cI, 3600, .inl gic)), (agbe, .inl (cI, 3600, .inl gbe)), (agds, .inl (cI, 60, .inl gds))]) (w1 := [(h0, .inr (4, [.int xth, .int xnv, .int xna, .ref agbi, .ref agab, .int xtl, .ref aghv, .ref agic, .ref agbe, .int xmk, .ref agmt, .ref agmv, .ref agma, .ref agnd, .ref agre, .ref agse, .ref aglv, .ref agal, .ref agds, .ref agno, .ref agna]))]) hP hD [0] [1, 2, 3, 4] rfl rfl (by decide) (by decide) hk1 hFc hP1 hD1
    generalize H1 = H at hP hS ⊢
    replace hP : va_P (dC, dI) vwCl [(aghv, .inl (cI, 1920, .inl ghv)), (agic, .inl (cI, 3600, .inl gic)), (agbe, .inl (cI, 3600, .inl gbe)), (agds, .inl (cI, 60, .inl gds)), (h0, .inr (4, [.int xth, .int xnv, .int xna, .ref agbi, .ref agab, .int xtl, .ref aghv, .ref agic, .ref agbe, .int xmk, .ref agmt, .ref agmv, .ref agma, .ref agnd, .ref agre, .ref agse, .ref aglv, .ref agal, .ref agds, .ref agno, .ref agna]))] H := hP
    replace hD : va_D A [(aghv, .inl (cI, 1920, .inl ghv)), (agic, .inl (cI, 3600, .inl gic)), (agbe, .inl (cI, 3600, .inl gbe)), (agds, .inl (cI, 60, .inl gds)), (h0, .inr (4, [.int xth, .int xnv, .int xna, .ref agbi, .ref agab, .int xtl, .ref aghv, .ref agic, .ref agbe, .int xmk, .ref agmt, .ref agmv, .ref agma, .ref agnd, .ref agre, .ref agse, .ref aglv, .ref agal, .ref agds, .ref agno, .ref agna]))] := hD
    refine lv_if_eq (tgt := 21) hx hb dX4_way_6 (by decide) (fun c18 => ?_) (fun c18 => ?_)
    · replace ht := ht.1 c18
      refine lv_iconst (v := 0) hx hb dX4_way_21 (by decide) ?_
      refine lv_iconst (v := 1) hx hb dX4_way_22 (by decide) ?_
      have hPc := hP.sub (ws' := [(h0, .inr (4, [.int xth, .int xnv, .int xna, .ref agbi, .ref agab, .int xtl, .ref aghv, .ref agic, .ref agbe, .int xmk, .ref agmt, .ref agmv, .ref agma, .ref agnd, .ref agre, .ref agse, .ref aglv, .ref agal, .ref agds, .ref agno, .ref agna]))]) [4] rfl
      have hDc := hD.sub (ws' := [(h0, .inr (4, [.int xth, .int xnv, .int xna, .ref agbi, .ref agab, .int xtl, .ref aghv, .ref agic, .ref agbe, .int xmk, .ref agmt, .ref agmv, .ref agma, .ref agnd, .ref agre, .ref agse, .ref aglv, .ref agal, .ref agds, .ref agno, .ref agna]))]) [4] (by decide) rfl
      have hFc := va_free (wc := [(h0, .inr (4, [.int xth, .int xnv, .int xna, .ref agbi, .ref agab, .int xtl, .ref aghv, .ref agic, .ref agbe, .int xmk, .ref agmt, .ref agmv, .ref agma, .ref agnd, .ref agre, .ref agse, .ref aglv, .ref agal, .ref agds, .ref agno, .ref agna]))]) hD hS hA [4] rfl
      refine va_calli (va_runV (As := [.int 0, .int 1]) (rest := []) ⟨hx, hb, hml, hown, hts⟩ (c_X4_goes l dC dI cI cJ h0 agbi agab aghv agic agbe agmt agmv agma agnd agre agse aglv agal agds agno agna xth xnv xna xtl xmk H.size 0 1 _ ht) (cwV 2 hts gX4_way_X4_goes rfl rfl rfl (by decide +kernel) ⟨Nat.le_of_ble_eq_true rfl, Nat.le_of_ble_eq_true rfl⟩) ⟨fun a U g mk q => by obtain ⟨q0, q1, qP, qK, qD, qN⟩ := q; exact ⟨q0, q1, qP, va_K.moved (u := U) (U := U.calling g mk a) (Vm.Alike.refl U.vm) qK, qD, nw_same rfl qN⟩, va_recv hK hP (ci := 4) (q0 := 4) rfl rfl, fun U hU hW => ⟨rfl, by rw [hU], by rw [hU]; exact hPc, va_K.moved hW.alike hK, hDc.weaken (fun _ _ _ _ => trivial), nw_warm hW hN⟩⟩ rfl rfl hl.1 rfl (lv_room (Nat.le_of_ble_eq_true rfl)) dX4_way_23 ⟨Nat.le_of_ble_eq_true rfl, Nat.le_of_ble_eq_true rfl⟩) hS (fun q _ h => hFc q h) hFc (fun r19 u t H1 locs ht9 hvm hw hB hz1 hk1 hS => ?_)
      obtain ⟨xth_20, rfl⟩ : ∃ z, z = u := ⟨_, rfl⟩
      obtain ⟨hP1, hK1, hD1⟩ := hB
      rw [ht9] at hP1
      try dsimp only at hw
      replace ht := hw
      obtain ⟨hP, hD⟩ := va_join (wr := [(aghv, .inl (cI, 1920, .inl ghv)), (agic, .inl (cI, 3600, .inl gic)), (agbe, .inl (cI, 3600, .inl gbe)), (agds, .inl (cI, 60, .inl gds))]) (w1 := [(h0, .inr (4, [.int xth_20, .int xnv, .int xna, .ref agbi, .ref agab, .int xtl, .ref aghv, .ref agic, .ref agbe, .int xmk, .ref agmt, .ref agmv, .ref agma, .ref agnd, .ref agre, .ref agse, .ref aglv, .ref agal, .ref agds, .ref agno, .ref agna]))]) hP hD [4] [0, 1, 2, 3] rfl rfl (by decide) (by decide) hk1 hFc hP1 hD1
      generalize H1 = H at hP hS ⊢
      replace hP : va_P (dC, dI) vwCl [(aghv, .inl (cI, 1920, .inl ghv)), (agic, .inl (cI, 3600, .inl gic)), (agbe, .inl (cI, 3600, .inl gbe)), (agds, .inl (cI, 60, .inl gds)), (h0, .inr (4, [.int xth_20, .int xnv, .int xna, .ref agbi, .ref agab, .int xtl, .ref aghv, .ref agic, .ref agbe, .int xmk, .ref agmt, .ref agmv, .ref agma, .ref agnd, .ref agre, .ref agse, .ref aglv, .ref agal, .ref agds, .ref agno, .ref agna]))] H := hP
      replace hD : va_D A [(aghv, .inl (cI, 1920, .inl ghv)), (agic, .inl (cI, 3600, .inl gic)), (agbe, .inl (cI, 3600, .inl gbe)), (agds, .inl (cI, 60, .inl gds)), (h0, .inr (4, [.int xth_20, .int xnv, .int xna, .ref agbi, .ref agab, .int xtl, .ref aghv, .ref agic, .ref agbe, .int xmk, .ref agmt, .ref agmv, .ref agma, .ref agnd, .ref agre, .ref agse, .ref aglv, .ref agal, .ref agds, .ref agno, .ref agna]))] := hD
      refine lv_if_ne (tgt := 31) hx hb dX4_way_26 (by decide) (fun c21 => ?_) (fun c21 => ?_)
      · replace ht := ht.1 c21
        exact ht _ _ _ (hP.sub [4, 0, 1, 2, 3] rfl) (hD.sub [4, 0, 1, 2, 3] (by decide) rfl) hS (lv_sub hl [0, 1, 2, 3] rfl)
      · replace ht := ht.2 c21
        refine lv_iconst (v := 0) hx hb dX4_way_29 (by decide) ?_
        have hP9 : va_P (dC, dI) vwCl [(h0, .inr (4, [.int xth_20, .int xnv, .int xna, .ref agbi, .ref agab, .int xtl, .ref aghv, .ref agic, .ref agbe, .int xmk, .ref agmt, .ref agmv, .ref agma, .ref agnd, .ref agre, .ref agse, .ref aglv, .ref agal, .ref agds, .ref agno, .ref agna])), (aghv, .inl (cI, 1920, .inl ghv)), (agic, .inl (cI, 3600, .inl gic)), (agbe, .inl (cI, 3600, .inl gbe)), (agds, .inl (cI, 60, .inl gds))] _ := (hP.sub [4, 0, 1, 2, 3] rfl)
        have hD9 : va_D A [(h0, .inr (4, [.int xth_20, .int xnv, .int xna, .ref agbi, .ref agab, .int xtl, .ref aghv, .ref agic, .ref agbe, .int xmk, .ref agmt, .ref agmv, .ref agma, .ref agnd, .ref agre, .ref agse, .ref aglv, .ref agal, .ref agds, .ref agno, .ref agna])), (aghv, .inl (cI, 1920, .inl ghv)), (agic, .inl (cI, 3600, .inl gic)), (agbe, .inl (cI, 3600, .inl gbe)), (agds, .inl (cI, 60, .inl gds))] := (hD.sub [4, 0, 1, 2, 3] (by decide) rfl)
        exact W.iret (v := 0) hx hb hr (fun t ht9 hW => ⟨⟨0, (xth_20, gds), rfl, ht, by rw [ht9]; exact hP9, va_K.moved hW.alike hK, hD9⟩, hS.F ht9⟩) hS.2.2 dX4_way_30
    · replace ht := ht.2 c18
      refine lv_aload_n hx hb dX4_way_9 rfl (lv_at hl 0 rfl) ?_
      refine lv_iload_n hx hb dX4_way_10 rfl (lv_at hl 2 rfl) ?_
      have hPc := hP.sub (ws' := [(h0, .inr (4, [.int xth, .int xnv, .int xna, .ref agbi, .ref agab, .int xtl, .ref aghv, .ref agic, .ref agbe, .int xmk, .ref agmt, .ref agmv, .ref agma, .ref agnd, .ref agre, .ref agse, .ref aglv, .ref agal, .ref agds, .ref agno, .ref agna]))]) [4] rfl
      have hDc := hD.sub (ws' := [(h0, .inr (4, [.int xth, .int xnv, .int xna, .ref agbi, .ref agab, .int xtl, .ref aghv, .ref agic, .ref agbe, .int xmk, .ref agmt, .ref agmv, .ref agma, .ref agnd, .ref agre, .ref agse, .ref aglv, .ref agal, .ref agds, .ref agno, .ref agna]))]) [4] (by decide) rfl
      have hFc := va_free (wc := [(h0, .inr (4, [.int xth, .int xnv, .int xna, .ref agbi, .ref agab, .int xtl, .ref aghv, .ref agic, .ref agbe, .int xmk, .ref agmt, .ref agmv, .ref agma, .ref agnd, .ref agre, .ref agse, .ref aglv, .ref agal, .ref agds, .ref agno, .ref agna]))]) hD hS hA [4] rfl
      refine va_calli (va_runV (As := [.int p2]) (rest := [.ref h0]) ⟨hx, hb, hml, hown, hts⟩ (c_X4_isAtom l dC dI cI cJ h0 agbi agab aghv agic agbe agmt agmv agma agnd agre agse aglv agal agds agno agna xth xnv xna xtl xmk H.size p2 _ ht) (cwV 1 hts gX4_way_X4_isAtom rfl rfl rfl (by decide +kernel) ⟨Nat.le_of_ble_eq_true rfl, Nat.le_of_ble_eq_true rfl⟩) ⟨fun a U g mk q => by obtain ⟨q0, q1, qP, qK, qD, qN⟩ := q; exact ⟨q0, q1, qP, va_K.moved (u := U) (U := U.calling g mk a) (Vm.Alike.refl U.vm) qK, qD, nw_same rfl qN⟩, va_recv hK hP (ci := 4) (q0 := 4) rfl rfl, fun U hU hW => ⟨rfl, by rw [hU], by rw [hU]; exact hPc, va_K.moved hW.alike hK, hDc.weaken (fun _ _ _ _ => trivial), nw_warm hW hN⟩⟩ rfl rfl hl.1 rfl (lv_room (Nat.le_of_ble_eq_true rfl)) dX4_way_11 ⟨Nat.le_of_ble_eq_true rfl, Nat.le_of_ble_eq_true rfl⟩) hS (fun q _ h => hFc q h) hFc (fun r22 u t H1 locs ht9 hvm hw hB hz1 hk1 hS => ?_)
      obtain ⟨hP1, hK1, hD1⟩ := hB
      rw [ht9] at hP1
      try dsimp only at hw
      replace ht := hw
      obtain ⟨hP, hD⟩ := va_join (wr := [(aghv, .inl (cI, 1920, .inl ghv)), (agic, .inl (cI, 3600, .inl gic)), (agbe, .inl (cI, 3600, .inl gbe)), (agds, .inl (cI, 60, .inl gds))]) (w1 := [(h0, .inr (4, [.int xth, .int xnv, .int xna, .ref agbi, .ref agab, .int xtl, .ref aghv, .ref agic, .ref agbe, .int xmk, .ref agmt, .ref agmv, .ref agma, .ref agnd, .ref agre, .ref agse, .ref aglv, .ref agal, .ref agds, .ref agno, .ref agna]))]) hP hD [4] [0, 1, 2, 3] rfl rfl (by decide) (by decide) hk1 hFc hP1 hD1
      generalize H1 = H at hP hS ⊢
      replace hP : va_P (dC, dI) vwCl [(aghv, .inl (cI, 1920, .inl ghv)), (agic, .inl (cI, 3600, .inl gic)), (agbe, .inl (cI, 3600, .inl gbe)), (agds, .inl (cI, 60, .inl gds)), (h0, .inr (4, [.int xth, .int xnv, .int xna, .ref agbi, .ref agab, .int xtl, .ref aghv, .ref agic, .ref agbe, .int xmk, .ref agmt, .ref agmv, .ref agma, .ref agnd, .ref agre, .ref agse, .ref aglv, .ref agal, .ref agds, .ref agno, .ref agna]))] H := hP
      replace hD : va_D A [(aghv, .inl (cI, 1920, .inl ghv)), (agic, .inl (cI, 3600, .inl gic)), (agbe, .inl (cI, 3600, .inl gbe)), (agds, .inl (cI, 60, .inl gds)), (h0, .inr (4, [.int xth, .int xnv, .int xna, .ref agbi, .ref agab, .int xtl, .ref aghv, .ref agic, .ref agbe, .int xmk, .ref agmt, .ref agmv, .ref agma, .ref agnd, .ref agre, .ref agse, .ref aglv, .ref agal, .ref agds, .ref agno, .ref agna]))] := hD
      refine lv_if_eq (tgt := 21) hx hb dX4_way_14 (by decide) (fun c23 => ?_) (fun c23 => ?_)
      · replace ht := ht.1 c23
        refine lv_iconst (v := 0) hx hb dX4_way_21 (by decide) ?_
        refine lv_iconst (v := 1) hx hb dX4_way_22 (by decide) ?_
        have hPc := hP.sub (ws' := [(h0, .inr (4, [.int xth, .int xnv, .int xna, .ref agbi, .ref agab, .int xtl, .ref aghv, .ref agic, .ref agbe, .int xmk, .ref agmt, .ref agmv, .ref agma, .ref agnd, .ref agre, .ref agse, .ref aglv, .ref agal, .ref agds, .ref agno, .ref agna]))]) [4] rfl
        have hDc := hD.sub (ws' := [(h0, .inr (4, [.int xth, .int xnv, .int xna, .ref agbi, .ref agab, .int xtl, .ref aghv, .ref agic, .ref agbe, .int xmk, .ref agmt, .ref agmv, .ref agma, .ref agnd, .ref agre, .ref agse, .ref aglv, .ref agal, .ref agds, .ref agno, .ref agna]))]) [4] (by decide) rfl
        have hFc := va_free (wc := [(h0, .inr (4, [.int xth, .int xnv, .int xna, .ref agbi, .ref agab, .int xtl, .ref aghv, .ref agic, .ref agbe, .int xmk, .ref agmt, .ref agmv, .ref agma, .ref agnd, .ref agre, .ref agse, .ref aglv, .ref agal, .ref agds, .ref agno, .ref agna]))]) hD hS hA [4] rfl
        refine va_calli (va_runV (As := [.int 0, .int 1]) (rest := []) ⟨hx, hb, hml, hown, hts⟩ (c_X4_goes l dC dI cI cJ h0 agbi agab aghv agic agbe agmt agmv agma agnd agre agse aglv agal agds agno agna xth xnv xna xtl xmk H.size 0 1 _ ht) (cwV 2 hts gX4_way_X4_goes rfl rfl rfl (by decide +kernel) ⟨Nat.le_of_ble_eq_true rfl, Nat.le_of_ble_eq_true rfl⟩) ⟨fun a U g mk q => by obtain ⟨q0, q1, qP, qK, qD, qN⟩ := q; exact ⟨q0, q1, qP, va_K.moved (u := U) (U := U.calling g mk a) (Vm.Alike.refl U.vm) qK, qD, nw_same rfl qN⟩, va_recv hK hP (ci := 4) (q0 := 4) rfl rfl, fun U hU hW => ⟨rfl, by rw [hU], by rw [hU]; exact hPc, va_K.moved hW.alike hK, hDc.weaken (fun _ _ _ _ => trivial), nw_warm hW hN⟩⟩ rfl rfl hl.1 rfl (lv_room (Nat.le_of_ble_eq_true rfl)) dX4_way_23 ⟨Nat.le_of_ble_eq_true rfl, Nat.le_of_ble_eq_true rfl⟩) hS (fun q _ h => hFc q h) hFc (fun r24 u t H1 locs ht9 hvm hw hB hz1 hk1 hS => ?_)
        obtain ⟨xth_25, rfl⟩ : ∃ z, z = u := ⟨_, rfl⟩
        obtain ⟨hP1, hK1, hD1⟩ := hB
        rw [ht9] at hP1
        try dsimp only at hw
        replace ht := hw
        obtain ⟨hP, hD⟩ := va_join (wr := [(aghv, .inl (cI, 1920, .inl ghv)), (agic, .inl (cI, 3600, .inl gic)), (agbe, .inl (cI, 3600, .inl gbe)), (agds, .inl (cI, 60, .inl gds))]) (w1 := [(h0, .inr (4, [.int xth_25, .int xnv, .int xna, .ref agbi, .ref agab, .int xtl, .ref aghv, .ref agic, .ref agbe, .int xmk, .ref agmt, .ref agmv, .ref agma, .ref agnd, .ref agre, .ref agse, .ref aglv, .ref agal, .ref agds, .ref agno, .ref agna]))]) hP hD [4] [0, 1, 2, 3] rfl rfl (by decide) (by decide) hk1 hFc hP1 hD1
        generalize H1 = H at hP hS ⊢
        replace hP : va_P (dC, dI) vwCl [(aghv, .inl (cI, 1920, .inl ghv)), (agic, .inl (cI, 3600, .inl gic)), (agbe, .inl (cI, 3600, .inl gbe)), (agds, .inl (cI, 60, .inl gds)), (h0, .inr (4, [.int xth_25, .int xnv, .int xna, .ref agbi, .ref agab, .int xtl, .ref aghv, .ref agic, .ref agbe, .int xmk, .ref agmt, .ref agmv, .ref agma, .ref agnd, .ref agre, .ref agse, .ref aglv, .ref agal, .ref agds, .ref agno, .ref agna]))] H := hP
        replace hD : va_D A [(aghv, .inl (cI, 1920, .inl ghv)), (agic, .inl (cI, 3600, .inl gic)), (agbe, .inl (cI, 3600, .inl gbe)), (agds, .inl (cI, 60, .inl gds)), (h0, .inr (4, [.int xth_25, .int xnv, .int xna, .ref agbi, .ref agab, .int xtl, .ref aghv, .ref agic, .ref agbe, .int xmk, .ref agmt, .ref agmv, .ref agma, .ref agnd, .ref agre, .ref agse, .ref aglv, .ref agal, .ref agds, .ref agno, .ref agna]))] := hD
        refine lv_if_ne (tgt := 31) hx hb dX4_way_26 (by decide) (fun c26 => ?_) (fun c26 => ?_)
        · replace ht := ht.1 c26
          exact ht _ _ _ (hP.sub [4, 0, 1, 2, 3] rfl) (hD.sub [4, 0, 1, 2, 3] (by decide) rfl) hS (lv_sub hl [0, 1, 2, 3] rfl)
        · replace ht := ht.2 c26
          refine lv_iconst (v := 0) hx hb dX4_way_29 (by decide) ?_
          have hP9 : va_P (dC, dI) vwCl [(h0, .inr (4, [.int xth_25, .int xnv, .int xna, .ref agbi, .ref agab, .int xtl, .ref aghv, .ref agic, .ref agbe, .int xmk, .ref agmt, .ref agmv, .ref agma, .ref agnd, .ref agre, .ref agse, .ref aglv, .ref agal, .ref agds, .ref agno, .ref agna])), (aghv, .inl (cI, 1920, .inl ghv)), (agic, .inl (cI, 3600, .inl gic)), (agbe, .inl (cI, 3600, .inl gbe)), (agds, .inl (cI, 60, .inl gds))] _ := (hP.sub [4, 0, 1, 2, 3] rfl)
          have hD9 : va_D A [(h0, .inr (4, [.int xth_25, .int xnv, .int xna, .ref agbi, .ref agab, .int xtl, .ref aghv, .ref agic, .ref agbe, .int xmk, .ref agmt, .ref agmv, .ref agma, .ref agnd, .ref agre, .ref agse, .ref aglv, .ref agal, .ref agds, .ref agno, .ref agna])), (aghv, .inl (cI, 1920, .inl ghv)), (agic, .inl (cI, 3600, .inl gic)), (agbe, .inl (cI, 3600, .inl gbe)), (agds, .inl (cI, 60, .inl gds))] := (hD.sub [4, 0, 1, 2, 3] (by decide) rfl)
          exact W.iret (v := 0) hx hb hr (fun t ht9 hW => ⟨⟨0, (xth_25, gds), rfl, ht, by rw [ht9]; exact hP9, va_K.moved hW.alike hK, hD9⟩, hS.F ht9⟩) hS.2.2 dX4_way_30
      · replace ht := ht.2 c23
        refine lv_iconst (v := 1) hx hb dX4_way_17 (by decide) ?_
        refine lv_goto (tgt := 22) hx hb dX4_way_18 (by decide) ?_
        refine lv_iconst (v := 1) hx hb dX4_way_22 (by decide) ?_
        have hPc := hP.sub (ws' := [(h0, .inr (4, [.int xth, .int xnv, .int xna, .ref agbi, .ref agab, .int xtl, .ref aghv, .ref agic, .ref agbe, .int xmk, .ref agmt, .ref agmv, .ref agma, .ref agnd, .ref agre, .ref agse, .ref aglv, .ref agal, .ref agds, .ref agno, .ref agna]))]) [4] rfl
        have hDc := hD.sub (ws' := [(h0, .inr (4, [.int xth, .int xnv, .int xna, .ref agbi, .ref agab, .int xtl, .ref aghv, .ref agic, .ref agbe, .int xmk, .ref agmt, .ref agmv, .ref agma, .ref agnd, .ref agre, .ref agse, .ref aglv, .ref agal, .ref agds, .ref agno, .ref agna]))]) [4] (by decide) rfl
        have hFc := va_free (wc := [(h0, .inr (4, [.int xth, .int xnv, .int xna, .ref agbi, .ref agab, .int xtl, .ref aghv, .ref agic, .ref agbe, .int xmk, .ref agmt, .ref agmv, .ref agma, .ref agnd, .ref agre, .ref agse, .ref aglv, .ref agal, .ref agds, .ref agno, .ref agna]))]) hD hS hA [4] rfl
        refine va_calli (va_runV (As := [.int 1, .int 1]) (rest := []) ⟨hx, hb, hml, hown, hts⟩ (c_X4_goes l dC dI cI cJ h0 agbi agab aghv agic agbe agmt agmv agma agnd agre agse aglv agal agds agno agna xth xnv xna xtl xmk H.size 1 1 _ ht) (cwV 2 hts gX4_way_X4_goes rfl rfl rfl (by decide +kernel) ⟨Nat.le_of_ble_eq_true rfl, Nat.le_of_ble_eq_true rfl⟩) ⟨fun a U g mk q => by obtain ⟨q0, q1, qP, qK, qD, qN⟩ := q; exact ⟨q0, q1, qP, va_K.moved (u := U) (U := U.calling g mk a) (Vm.Alike.refl U.vm) qK, qD, nw_same rfl qN⟩, va_recv hK hP (ci := 4) (q0 := 4) rfl rfl, fun U hU hW => ⟨rfl, by rw [hU], by rw [hU]; exact hPc, va_K.moved hW.alike hK, hDc.weaken (fun _ _ _ _ => trivial), nw_warm hW hN⟩⟩ rfl rfl hl.1 rfl (lv_room (Nat.le_of_ble_eq_true rfl)) dX4_way_23 ⟨Nat.le_of_ble_eq_true rfl, Nat.le_of_ble_eq_true rfl⟩) hS (fun q _ h => hFc q h) hFc (fun r27 u t H1 locs ht9 hvm hw hB hz1 hk1 hS => ?_)
        obtain ⟨xth_28, rfl⟩ : ∃ z, z = u := ⟨_, rfl⟩
        obtain ⟨hP1, hK1, hD1⟩ := hB
        rw [ht9] at hP1
        try dsimp only at hw
        replace ht := hw
        obtain ⟨hP, hD⟩ := va_join (wr := [(aghv, .inl (cI, 1920, .inl ghv)), (agic, .inl (cI, 3600, .inl gic)), (agbe, .inl (cI, 3600, .inl gbe)), (agds, .inl (cI, 60, .inl gds))]) (w1 := [(h0, .inr (4, [.int xth_28, .int xnv, .int xna, .ref agbi, .ref agab, .int xtl, .ref aghv, .ref agic, .ref agbe, .int xmk, .ref agmt, .ref agmv, .ref agma, .ref agnd, .ref agre, .ref agse, .ref aglv, .ref agal, .ref agds, .ref agno, .ref agna]))]) hP hD [4] [0, 1, 2, 3] rfl rfl (by decide) (by decide) hk1 hFc hP1 hD1
        generalize H1 = H at hP hS ⊢
        replace hP : va_P (dC, dI) vwCl [(aghv, .inl (cI, 1920, .inl ghv)), (agic, .inl (cI, 3600, .inl gic)), (agbe, .inl (cI, 3600, .inl gbe)), (agds, .inl (cI, 60, .inl gds)), (h0, .inr (4, [.int xth_28, .int xnv, .int xna, .ref agbi, .ref agab, .int xtl, .ref aghv, .ref agic, .ref agbe, .int xmk, .ref agmt, .ref agmv, .ref agma, .ref agnd, .ref agre, .ref agse, .ref aglv, .ref agal, .ref agds, .ref agno, .ref agna]))] H := hP
        replace hD : va_D A [(aghv, .inl (cI, 1920, .inl ghv)), (agic, .inl (cI, 3600, .inl gic)), (agbe, .inl (cI, 3600, .inl gbe)), (agds, .inl (cI, 60, .inl gds)), (h0, .inr (4, [.int xth_28, .int xnv, .int xna, .ref agbi, .ref agab, .int xtl, .ref aghv, .ref agic, .ref agbe, .int xmk, .ref agmt, .ref agmv, .ref agma, .ref agnd, .ref agre, .ref agse, .ref aglv, .ref agal, .ref agds, .ref agno, .ref agna]))] := hD
        refine lv_if_ne (tgt := 31) hx hb dX4_way_26 (by decide) (fun c29 => ?_) (fun c29 => ?_)
        · replace ht := ht.1 c29
          exact ht _ _ _ (hP.sub [4, 0, 1, 2, 3] rfl) (hD.sub [4, 0, 1, 2, 3] (by decide) rfl) hS (lv_sub hl [0, 1, 2, 3] rfl)
        · replace ht := ht.2 c29
          refine lv_iconst (v := 0) hx hb dX4_way_29 (by decide) ?_
          have hP9 : va_P (dC, dI) vwCl [(h0, .inr (4, [.int xth_28, .int xnv, .int xna, .ref agbi, .ref agab, .int xtl, .ref aghv, .ref agic, .ref agbe, .int xmk, .ref agmt, .ref agmv, .ref agma, .ref agnd, .ref agre, .ref agse, .ref aglv, .ref agal, .ref agds, .ref agno, .ref agna])), (aghv, .inl (cI, 1920, .inl ghv)), (agic, .inl (cI, 3600, .inl gic)), (agbe, .inl (cI, 3600, .inl gbe)), (agds, .inl (cI, 60, .inl gds))] _ := (hP.sub [4, 0, 1, 2, 3] rfl)
          have hD9 : va_D A [(h0, .inr (4, [.int xth_28, .int xnv, .int xna, .ref agbi, .ref agab, .int xtl, .ref aghv, .ref agic, .ref agbe, .int xmk, .ref agmt, .ref agmv, .ref agma, .ref agnd, .ref agre, .ref agse, .ref aglv, .ref agal, .ref agds, .ref agno, .ref agna])), (aghv, .inl (cI, 1920, .inl ghv)), (agic, .inl (cI, 3600, .inl gic)), (agbe, .inl (cI, 3600, .inl gbe)), (agds, .inl (cI, 60, .inl gds))] := (hD.sub [4, 0, 1, 2, 3] (by decide) rfl)
          exact W.iret (v := 0) hx hb hr (fun t ht9 hW => ⟨⟨0, (xth_28, gds), rfl, ht, by rw [ht9]; exact hP9, va_K.moved hW.alike hK, hD9⟩, hS.F ht9⟩) hS.2.2 dX4_way_30
set_option maxHeartbeats 4000000 in
set_option maxRecDepth 100000 in
theorem c_X4_count (l : Launch) (dC : Nat → ClassId) (dI : Nat → Nat → Nat) (cI cJ : ClassId) (h0 : Nat) (agbi : Nat) (agab : Nat) (aghv : Nat) (agic : Nat) (agbe : Nat) (agmt : Nat) (agmv : Nat) (agma : Nat) (agnd : Nat) (agre : Nat) (agse : Nat) (aglv : Nat) (agal : Nat) (agds : Nat) (agno : Nat) (agna : Nat) (xth : Int32) (xnv : Int32) (xna : Int32) (xtl : Int32) (xmk : Int32) (gbi : Nat → Int32) (gab : Nat → Int32) (ghv : Nat → Int32) (gic : Nat → Int32) (gbe : Nat → Int32) (gnd : Nat → Int32) (gre : Nat → Int64) (gse : Nat → Int32) (glv : Nat → Int32) (gal : Nat → Int32) (sz : Nat) (p1 : Int32) (post : Int32 → Int32 → (Nat → Int32) → (Nat → Int64) → (Nat → Int32) → (Nat → Int32) → (Nat → Int32) → Prop) (hsp : S_X4_count p1 xth xnv xna xmk gbi gab ghv gic gbe gnd gre gse glv gal post) : Met l yX4_count wsX4_count ({ frames := 2, cells := 0, slots := 0, locals := 45 }) (va_Pc [.ref h0, .int p1] (fun U => U.heap.size = sz ∧ va_P (dC, dI) vwCl [(h0, .inr (4, [.int xth, .int xnv, .int xna, .ref agbi, .ref agab, .int xtl, .ref aghv, .ref agic, .ref agbe, .int xmk, .ref agmt, .ref agmv, .ref agma, .ref agnd, .ref agre, .ref agse, .ref aglv, .ref agal, .ref agds, .ref agno, .ref agna])), (agbi, .inl (cI, 60, .inl gbi)), (agab, .inl (cI, 32, .inl gab)), (aghv, .inl (cI, 1920, .inl ghv)), (agic, .inl (cI, 3600, .inl gic)), (agbe, .inl (cI, 3600, .inl gbe)), (agnd, .inl (cI, 60, .inl gnd)), (agre, .inl (cJ, 60, .inr (.inl gre))), (agse, .inl (cI, 60, .inl gse)), (aglv, .inl (cI, 60, .inl glv)), (agal, .inl (cI, 32, .inl gal))] U.heap ∧ va_K (dC, dI) vwCl [(cI, .int), (cJ, .long)] U ∧ va_D (fun _ => True) [(h0, .inr (4, [.int xth, .int xnv, .int xna, .ref agbi, .ref agab, .int xtl, .ref aghv, .ref agic, .ref agbe, .int xmk, .ref agmt, .ref agmv, .ref agma, .ref agnd, .ref agre, .ref agse, .ref aglv, .ref agal, .ref agds, .ref agno, .ref agna])), (agbi, .inl (cI, 60, .inl gbi)), (agab, .inl (cI, 32, .inl gab)), (aghv, .inl (cI, 1920, .inl ghv)), (agic, .inl (cI, 3600, .inl gic)), (agbe, .inl (cI, 3600, .inl gbe)), (agnd, .inl (cI, 60, .inl gnd)), (agre, .inl (cJ, 60, .inr (.inl gre))), (agse, .inl (cI, 60, .inl gse)), (aglv, .inl (cI, 60, .inl glv)), (agal, .inl (cI, 32, .inl gal))] ∧ nw U)) (va_Qi (fun (r : Int32) (u : Int32 × (Nat → Int32) × (Nat → Int64) × (Nat → Int32) × (Nat → Int32) × (Nat → Int32)) => post r (u.1) (u.2.1) (u.2.2.1) (u.2.2.2.1) (u.2.2.2.2.1) (u.2.2.2.2.2)) (fun (u : Int32 × (Nat → Int32) × (Nat → Int64) × (Nat → Int32) × (Nat → Int32) × (Nat → Int32)) (t : State) => va_P (dC, dI) vwCl [(h0, .inr (4, [.int (u.1), .int xnv, .int xna, .ref agbi, .ref agab, .int xtl, .ref aghv, .ref agic, .ref agbe, .int xmk, .ref agmt, .ref agmv, .ref agma, .ref agnd, .ref agre, .ref agse, .ref aglv, .ref agal, .ref agds, .ref agno, .ref agna])), (agbi, .inl (cI, 60, .inl gbi)), (agab, .inl (cI, 32, .inl gab)), (aghv, .inl (cI, 1920, .inl ghv)), (agic, .inl (cI, 3600, .inl gic)), (agbe, .inl (cI, 3600, .inl gbe)), (agnd, .inl (cI, 60, .inl (u.2.1))), (agre, .inl (cJ, 60, .inr (.inl (u.2.2.1)))), (agse, .inl (cI, 60, .inl (u.2.2.2.1))), (aglv, .inl (cI, 60, .inl (u.2.2.2.2.1))), (agal, .inl (cI, 32, .inl (u.2.2.2.2.2)))] t.heap ∧ va_K (dC, dI) vwCl [(cI, .int), (cJ, .long)] t ∧ va_D (va_A [(h0, .inr (4, [.int xth, .int xnv, .int xna, .ref agbi, .ref agab, .int xtl, .ref aghv, .ref agic, .ref agbe, .int xmk, .ref agmt, .ref agmv, .ref agma, .ref agnd, .ref agre, .ref agse, .ref aglv, .ref agal, .ref agds, .ref agno, .ref agna])), (agbi, .inl (cI, 60, .inl gbi)), (agab, .inl (cI, 32, .inl gab)), (aghv, .inl (cI, 1920, .inl ghv)), (agic, .inl (cI, 3600, .inl gic)), (agbe, .inl (cI, 3600, .inl gbe)), (agnd, .inl (cI, 60, .inl gnd)), (agre, .inl (cJ, 60, .inr (.inl gre))), (agse, .inl (cI, 60, .inl gse)), (aglv, .inl (cI, 60, .inl glv)), (agal, .inl (cI, 32, .inl gal))] sz) [(h0, .inr (4, [.int (u.1), .int xnv, .int xna, .ref agbi, .ref agab, .int xtl, .ref aghv, .ref agic, .ref agbe, .int xmk, .ref agmt, .ref agmv, .ref agma, .ref agnd, .ref agre, .ref agse, .ref aglv, .ref agal, .ref agds, .ref agno, .ref agna])), (agbi, .inl (cI, 60, .inl gbi)), (agab, .inl (cI, 32, .inl gab)), (aghv, .inl (cI, 1920, .inl ghv)), (agic, .inl (cI, 3600, .inl gic)), (agbe, .inl (cI, 3600, .inl gbe)), (agnd, .inl (cI, 60, .inl (u.2.1))), (agre, .inl (cJ, 60, .inr (.inl (u.2.2.1)))), (agse, .inl (cI, 60, .inl (u.2.2.2.1))), (aglv, .inl (cI, 60, .inl (u.2.2.2.2.1))), (agal, .inl (cI, 32, .inl (u.2.2.2.2.2)))]) (va_A [(h0, .inr (4, [.int xth, .int xnv, .int xna, .ref agbi, .ref agab, .int xtl, .ref aghv, .ref agic, .ref agbe, .int xmk, .ref agmt, .ref agmv, .ref agma, .ref agnd, .ref agre, .ref agse, .ref aglv, .ref agal, .ref agds, .ref agno, .ref agna])), (agbi, .inl (cI, 60, .inl gbi)), (agab, .inl (cI, 32, .inl gab)), (aghv, .inl (cI, 1920, .inl ghv)), (agic, .inl (cI, 3600, .inl gic)), (agbe, .inl (cI, 3600, .inl gbe)), (agnd, .inl (cI, 60, .inl gnd)), (agre, .inl (cJ, 60, .inr (.inl gre))), (agse, .inl (cI, 60, .inl gse)), (aglv, .inl (cI, 60, .inl glv)), (agal, .inl (cI, 32, .inl gal))] sz)) 0 0 (va_A [(h0, .inr (4, [.int xth, .int xnv, .int xna, .ref agbi, .ref agab, .int xtl, .ref aghv, .ref agic, .ref agbe, .int xmk, .ref agmt, .ref agmv, .ref agma, .ref agnd, .ref agre, .ref agse, .ref aglv, .ref agal, .ref agds, .ref agno, .ref agna])), (agbi, .inl (cI, 60, .inl gbi)), (agab, .inl (cI, 32, .inl gab)), (aghv, .inl (cI, 1920, .inl ghv)), (agic, .inl (cI, 3600, .inl gic)), (agbe, .inl (cI, 3600, .inl gbe)), (agnd, .inl (cI, 60, .inl gnd)), (agre, .inl (cJ, 60, .inr (.inl gre))), (agse, .inl (cI, 60, .inl gse)), (aglv, .inl (cI, 60, .inl glv)), (agal, .inl (cI, 32, .inl gal))] sz) := by
  refine Met.ofW (cc := cX4_count) (maxL := 9) (ret := (some .int)) (by decide) rfl ?_
  intro p e s m args below meth c s₁ B hml hv
  obtain ⟨rfl, hsz, hP, hK, hD0, hN⟩ := hv
  have hx := B.exec
  have hb := B.bytes
  have hr := B.returns
  have hts := atoms_spec (ws := wsX4_count) B.pre
  have hown : s.vm.findClass RX4 = some m.cls := findClass_of_methodNamed B.named
  have hlocks := B.notSynchronized
  subst hsz
  have hD := hD0.self (sz := s.heap.size)
  generalize hAe : va_A [(h0, .inr (4, [.int xth, .int xnv, .int xna, .ref agbi, .ref agab, .int xtl, .ref aghv, .ref agic, .ref agbe, .int xmk, .ref agmt, .ref agmv, .ref agma, .ref agnd, .ref agre, .ref agse, .ref aglv, .ref agal, .ref agds, .ref agno, .ref agna])), (agbi, .inl (cI, 60, .inl gbi)), (agab, .inl (cI, 32, .inl gab)), (aghv, .inl (cI, 1920, .inl ghv)), (agic, .inl (cI, 3600, .inl gic)), (agbe, .inl (cI, 3600, .inl gbe)), (agnd, .inl (cI, 60, .inl gnd)), (agre, .inl (cJ, 60, .inr (.inl gre))), (agse, .inl (cI, 60, .inl gse)), (aglv, .inl (cI, 60, .inl glv)), (agal, .inl (cI, 32, .inl gal))] s.heap.size = A at hD ⊢
  have hA : ∀ q : Nat, s.heap.size ≤ q → A q := fun q h => by rw [← hAe]; exact Or.inr h
  have hS : va_S A s.heap s.heap [] := va_S.rf
  have hl := lv_entry ([.ref h0, .int p1]) (n := 9) (Nat.le_of_ble_eq_true rfl)
  rw [lg_entry_eq]
  generalize (lg_sl ([.ref h0, .int p1]) ++ List.replicate (9 - (lg_sl ([.ref h0, .int p1])).length) Slot.unset).toArray = ls at hl ⊢
  replace hl : lv_has ls 9 [(0, .ref h0), (1, .int p1)] := hl
  have hw0 := (show ∀ w ∈ wsX40, w ∈ wsX4_count from by decide +kernel)
  have hw1 := hts (.fieldLink RX4 63 "EffectNetsModel" "variables" "I") (by decide +kernel)
  have hw2 := hts (.fieldLink RX4 66 "EffectNetsModel" "atoms" "I") (by decide +kernel)
  have hw3 := hts (.fieldLink RX4 133 "EffectNetsModel" "marks" "I") (by decide +kernel)
  have hw4 := hts (.fieldLink RX4 34 "EffectNetsModel" "node" "[I") (by decide +kernel)
  have hw5 := hts (.fieldLink RX4 16 "EffectNetsModel" "having" "[I") (by decide +kernel)
  have hw6 := hts (.fieldLink RX4 19 "EffectNetsModel" "including" "[I") (by decide +kernel)
  have hw7 := hts (.fieldLink RX4 22 "EffectNetsModel" "being" "[I") (by decide +kernel)
  have hw8 := hts (.fieldLink RX4 59 "EffectNetsModel" "thrown" "I") (by decide +kernel)
  refine hsp _ (fun (x2 : Int32) (x3 : Int32) (x4 : Int32) (x5 : Int32) (x6 : Int32) (x7 : Int32) (xth : Int32) (gnd : Nat → Int32) (gre : Nat → Int64) (gse : Nat → Int32) (glv : Nat → Int32) (gal : Nat → Int32) => ∀ (H : Heap) (locs : List Loc) (ls : Array Slot), va_P (dC, dI) vwCl [(h0, .inr (4, [.int xth, .int xnv, .int xna, .ref agbi, .ref agab, .int xtl, .ref aghv, .ref agic, .ref agbe, .int xmk, .ref agmt, .ref agmv, .ref agma, .ref agnd, .ref agre, .ref agse, .ref aglv, .ref agal, .ref agds, .ref agno, .ref agna])), (agbi, .inl (cI, 60, .inl gbi)), (agab, .inl (cI, 32, .inl gab)), (aghv, .inl (cI, 1920, .inl ghv)), (agic, .inl (cI, 3600, .inl gic)), (agbe, .inl (cI, 3600, .inl gbe)), (agnd, .inl (cI, 60, .inl gnd)), (agre, .inl (cJ, 60, .inr (.inl gre))), (agse, .inl (cI, 60, .inl gse)), (aglv, .inl (cI, 60, .inl glv)), (agal, .inl (cI, 32, .inl gal))] H → va_D A [(h0, .inr (4, [.int xth, .int xnv, .int xna, .ref agbi, .ref agab, .int xtl, .ref aghv, .ref agic, .ref agbe, .int xmk, .ref agmt, .ref agmv, .ref agma, .ref agnd, .ref agre, .ref agse, .ref aglv, .ref agal, .ref agds, .ref agno, .ref agna])), (agbi, .inl (cI, 60, .inl gbi)), (agab, .inl (cI, 32, .inl gab)), (aghv, .inl (cI, 1920, .inl ghv)), (agic, .inl (cI, 3600, .inl gic)), (agbe, .inl (cI, 3600, .inl gbe)), (agnd, .inl (cI, 60, .inl gnd)), (agre, .inl (cJ, 60, .inr (.inl gre))), (agse, .inl (cI, 60, .inl gse)), (aglv, .inl (cI, 60, .inl glv)), (agal, .inl (cI, 32, .inl gal))] → va_S A s.heap H locs → lv_has ls 9 [(0, .ref h0), (1, .int p1), (2, .int x2), (3, .int x3), (4, .int x4), (5, .int x5), (6, .int x6), (7, .int x7)] → W p l e (headSpec wsX4_count ({ frames := 2, cells := 0, slots := 0, locals := 45 })).room s m (List.toArray [.ref h0, .int p1]) below meth c H locs 0 0 (MQ below (va_Qi (fun (r : Int32) (u : Int32 × (Nat → Int32) × (Nat → Int64) × (Nat → Int32) × (Nat → Int32) × (Nat → Int32)) => post r (u.1) (u.2.1) (u.2.2.1) (u.2.2.2.1) (u.2.2.2.2.1) (u.2.2.2.2.2)) (fun (u : Int32 × (Nat → Int32) × (Nat → Int64) × (Nat → Int32) × (Nat → Int32) × (Nat → Int32)) (t : State) => va_P (dC, dI) vwCl [(h0, .inr (4, [.int (u.1), .int xnv, .int xna, .ref agbi, .ref agab, .int xtl, .ref aghv, .ref agic, .ref agbe, .int xmk, .ref agmt, .ref agmv, .ref agma, .ref agnd, .ref agre, .ref agse, .ref aglv, .ref agal, .ref agds, .ref agno, .ref agna])), (agbi, .inl (cI, 60, .inl gbi)), (agab, .inl (cI, 32, .inl gab)), (aghv, .inl (cI, 1920, .inl ghv)), (agic, .inl (cI, 3600, .inl gic)), (agbe, .inl (cI, 3600, .inl gbe)), (agnd, .inl (cI, 60, .inl (u.2.1))), (agre, .inl (cJ, 60, .inr (.inl (u.2.2.1)))), (agse, .inl (cI, 60, .inl (u.2.2.2.1))), (aglv, .inl (cI, 60, .inl (u.2.2.2.2.1))), (agal, .inl (cI, 32, .inl (u.2.2.2.2.2)))] t.heap ∧ va_K (dC, dI) vwCl [(cI, .int), (cJ, .long)] t ∧ va_D A [(h0, .inr (4, [.int (u.1), .int xnv, .int xna, .ref agbi, .ref agab, .int xtl, .ref aghv, .ref agic, .ref agbe, .int xmk, .ref agmt, .ref agmv, .ref agma, .ref agnd, .ref agre, .ref agse, .ref aglv, .ref agal, .ref agds, .ref agno, .ref agna])), (agbi, .inl (cI, 60, .inl gbi)), (agab, .inl (cI, 32, .inl gab)), (aghv, .inl (cI, 1920, .inl ghv)), (agic, .inl (cI, 3600, .inl gic)), (agbe, .inl (cI, 3600, .inl gbe)), (agnd, .inl (cI, 60, .inl (u.2.1))), (agre, .inl (cJ, 60, .inr (.inl (u.2.2.1)))), (agse, .inl (cI, 60, .inl (u.2.2.2.1))), (aglv, .inl (cI, 60, .inl (u.2.2.2.2.1))), (agal, .inl (cI, 32, .inl (u.2.2.2.2.2)))]) A) (List.toArray [.ref h0, .int p1]) s 0 0 A) (F0 m 25 ls [])) (fun (x2 : Int32) (x3 : Int32) (x4 : Int32) (x5 : Int32) (x6 : Int32) (x7 : Int32) (x8 : Int32) (xth : Int32) (gnd : Nat → Int32) (gre : Nat → Int64) (gse : Nat → Int32) (glv : Nat → Int32) (gal : Nat → Int32) => ∀ (H : Heap) (locs : List Loc) (ls : Array Slot), va_P (dC, dI) vwCl [(h0, .inr (4, [.int xth, .int xnv, .int xna, .ref agbi, .ref agab, .int xtl, .ref aghv, .ref agic, .ref agbe, .int xmk, .ref agmt, .ref agmv, .ref agma, .ref agnd, .ref agre, .ref agse, .ref aglv, .ref agal, .ref agds, .ref agno, .ref agna])), (agbi, .inl (cI, 60, .inl gbi)), (agab, .inl (cI, 32, .inl gab)), (aghv, .inl (cI, 1920, .inl ghv)), (agic, .inl (cI, 3600, .inl gic)), (agbe, .inl (cI, 3600, .inl gbe)), (agnd, .inl (cI, 60, .inl gnd)), (agre, .inl (cJ, 60, .inr (.inl gre))), (agse, .inl (cI, 60, .inl gse)), (aglv, .inl (cI, 60, .inl glv)), (agal, .inl (cI, 32, .inl gal))] H → va_D A [(h0, .inr (4, [.int xth, .int xnv, .int xna, .ref agbi, .ref agab, .int xtl, .ref aghv, .ref agic, .ref agbe, .int xmk, .ref agmt, .ref agmv, .ref agma, .ref agnd, .ref agre, .ref agse, .ref aglv, .ref agal, .ref agds, .ref agno, .ref agna])), (agbi, .inl (cI, 60, .inl gbi)), (agab, .inl (cI, 32, .inl gab)), (aghv, .inl (cI, 1920, .inl ghv)), (agic, .inl (cI, 3600, .inl gic)), (agbe, .inl (cI, 3600, .inl gbe)), (agnd, .inl (cI, 60, .inl gnd)), (agre, .inl (cJ, 60, .inr (.inl gre))), (agse, .inl (cI, 60, .inl gse)), (aglv, .inl (cI, 60, .inl glv)), (agal, .inl (cI, 32, .inl gal))] → va_S A s.heap H locs → lv_has ls 9 [(0, .ref h0), (1, .int p1), (2, .int x2), (3, .int x3), (4, .int x4), (5, .int x5), (6, .int x6), (7, .int x7), (8, .int x8)] → W p l e (headSpec wsX4_count ({ frames := 2, cells := 0, slots := 0, locals := 45 })).room s m (List.toArray [.ref h0, .int p1]) below meth c H locs 0 0 (MQ below (va_Qi (fun (r : Int32) (u : Int32 × (Nat → Int32) × (Nat → Int64) × (Nat → Int32) × (Nat → Int32) × (Nat → Int32)) => post r (u.1) (u.2.1) (u.2.2.1) (u.2.2.2.1) (u.2.2.2.2.1) (u.2.2.2.2.2)) (fun (u : Int32 × (Nat → Int32) × (Nat → Int64) × (Nat → Int32) × (Nat → Int32) × (Nat → Int32)) (t : State) => va_P (dC, dI) vwCl [(h0, .inr (4, [.int (u.1), .int xnv, .int xna, .ref agbi, .ref agab, .int xtl, .ref aghv, .ref agic, .ref agbe, .int xmk, .ref agmt, .ref agmv, .ref agma, .ref agnd, .ref agre, .ref agse, .ref aglv, .ref agal, .ref agds, .ref agno, .ref agna])), (agbi, .inl (cI, 60, .inl gbi)), (agab, .inl (cI, 32, .inl gab)), (aghv, .inl (cI, 1920, .inl ghv)), (agic, .inl (cI, 3600, .inl gic)), (agbe, .inl (cI, 3600, .inl gbe)), (agnd, .inl (cI, 60, .inl (u.2.1))), (agre, .inl (cJ, 60, .inr (.inl (u.2.2.1)))), (agse, .inl (cI, 60, .inl (u.2.2.2.1))), (aglv, .inl (cI, 60, .inl (u.2.2.2.2.1))), (agal, .inl (cI, 32, .inl (u.2.2.2.2.2)))] t.heap ∧ va_K (dC, dI) vwCl [(cI, .int), (cJ, .long)] t ∧ va_D A [(h0, .inr (4, [.int (u.1), .int xnv, .int xna, .ref agbi, .ref agab, .int xtl, .ref aghv, .ref agic, .ref agbe, .int xmk, .ref agmt, .ref agmv, .ref agma, .ref agnd, .ref agre, .ref agse, .ref aglv, .ref agal, .ref agds, .ref agno, .ref agna])), (agbi, .inl (cI, 60, .inl gbi)), (agab, .inl (cI, 32, .inl gab)), (aghv, .inl (cI, 1920, .inl ghv)), (agic, .inl (cI, 3600, .inl gic)), (agbe, .inl (cI, 3600, .inl gbe)), (agnd, .inl (cI, 60, .inl (u.2.1))), (agre, .inl (cJ, 60, .inr (.inl (u.2.2.1)))), (agse, .inl (cI, 60, .inl (u.2.2.2.1))), (aglv, .inl (cI, 60, .inl (u.2.2.2.2.1))), (agal, .inl (cI, 32, .inl (u.2.2.2.2.2)))]) A) (List.toArray [.ref h0, .int p1]) s 0 0 A) (F0 m 88 ls [])) (fun (x2 : Int32) (x3 : Int32) (x4 : Int32) (x5 : Int32) (x6 : Int32) (x7 : Int32) (x8 : Int32) (xth : Int32) (gnd : Nat → Int32) (gre : Nat → Int64) (gse : Nat → Int32) (glv : Nat → Int32) (gal : Nat → Int32) => ∀ (H : Heap) (locs : List Loc) (ls : Array Slot), va_P (dC, dI) vwCl [(h0, .inr (4, [.int xth, .int xnv, .int xna, .ref agbi, .ref agab, .int xtl, .ref aghv, .ref agic, .ref agbe, .int xmk, .ref agmt, .ref agmv, .ref agma, .ref agnd, .ref agre, .ref agse, .ref aglv, .ref agal, .ref agds, .ref agno, .ref agna])), (agbi, .inl (cI, 60, .inl gbi)), (agab, .inl (cI, 32, .inl gab)), (aghv, .inl (cI, 1920, .inl ghv)), (agic, .inl (cI, 3600, .inl gic)), (agbe, .inl (cI, 3600, .inl gbe)), (agnd, .inl (cI, 60, .inl gnd)), (agre, .inl (cJ, 60, .inr (.inl gre))), (agse, .inl (cI, 60, .inl gse)), (aglv, .inl (cI, 60, .inl glv)), (agal, .inl (cI, 32, .inl gal))] H → va_D A [(h0, .inr (4, [.int xth, .int xnv, .int xna, .ref agbi, .ref agab, .int xtl, .ref aghv, .ref agic, .ref agbe, .int xmk, .ref agmt, .ref agmv, .ref agma, .ref agnd, .ref agre, .ref agse, .ref aglv, .ref agal, .ref agds, .ref agno, .ref agna])), (agbi, .inl (cI, 60, .inl gbi)), (agab, .inl (cI, 32, .inl gab)), (aghv, .inl (cI, 1920, .inl ghv)), (agic, .inl (cI, 3600, .inl gic)), (agbe, .inl (cI, 3600, .inl gbe)), (agnd, .inl (cI, 60, .inl gnd)), (agre, .inl (cJ, 60, .inr (.inl gre))), (agse, .inl (cI, 60, .inl gse)), (aglv, .inl (cI, 60, .inl glv)), (agal, .inl (cI, 32, .inl gal))] → va_S A s.heap H locs → lv_has ls 9 [(0, .ref h0), (1, .int p1), (2, .int x2), (3, .int x3), (4, .int x4), (5, .int x5), (6, .int x6), (7, .int x7), (8, .int x8)] → W p l e (headSpec wsX4_count ({ frames := 2, cells := 0, slots := 0, locals := 45 })).room s m (List.toArray [.ref h0, .int p1]) below meth c H locs 0 0 (MQ below (va_Qi (fun (r : Int32) (u : Int32 × (Nat → Int32) × (Nat → Int64) × (Nat → Int32) × (Nat → Int32) × (Nat → Int32)) => post r (u.1) (u.2.1) (u.2.2.1) (u.2.2.2.1) (u.2.2.2.2.1) (u.2.2.2.2.2)) (fun (u : Int32 × (Nat → Int32) × (Nat → Int64) × (Nat → Int32) × (Nat → Int32) × (Nat → Int32)) (t : State) => va_P (dC, dI) vwCl [(h0, .inr (4, [.int (u.1), .int xnv, .int xna, .ref agbi, .ref agab, .int xtl, .ref aghv, .ref agic, .ref agbe, .int xmk, .ref agmt, .ref agmv, .ref agma, .ref agnd, .ref agre, .ref agse, .ref aglv, .ref agal, .ref agds, .ref agno, .ref agna])), (agbi, .inl (cI, 60, .inl gbi)), (agab, .inl (cI, 32, .inl gab)), (aghv, .inl (cI, 1920, .inl ghv)), (agic, .inl (cI, 3600, .inl gic)), (agbe, .inl (cI, 3600, .inl gbe)), (agnd, .inl (cI, 60, .inl (u.2.1))), (agre, .inl (cJ, 60, .inr (.inl (u.2.2.1)))), (agse, .inl (cI, 60, .inl (u.2.2.2.1))), (aglv, .inl (cI, 60, .inl (u.2.2.2.2.1))), (agal, .inl (cI, 32, .inl (u.2.2.2.2.2)))] t.heap ∧ va_K (dC, dI) vwCl [(cI, .int), (cJ, .long)] t ∧ va_D A [(h0, .inr (4, [.int (u.1), .int xnv, .int xna, .ref agbi, .ref agab, .int xtl, .ref aghv, .ref agic, .ref agbe, .int xmk, .ref agmt, .ref agmv, .ref agma, .ref agnd, .ref agre, .ref agse, .ref aglv, .ref agal, .ref agds, .ref agno, .ref agna])), (agbi, .inl (cI, 60, .inl gbi)), (agab, .inl (cI, 32, .inl gab)), (aghv, .inl (cI, 1920, .inl ghv)), (agic, .inl (cI, 3600, .inl gic)), (agbe, .inl (cI, 3600, .inl gbe)), (agnd, .inl (cI, 60, .inl (u.2.1))), (agre, .inl (cJ, 60, .inr (.inl (u.2.2.1)))), (agse, .inl (cI, 60, .inl (u.2.2.2.1))), (aglv, .inl (cI, 60, .inl (u.2.2.2.2.1))), (agal, .inl (cI, 32, .inl (u.2.2.2.2.2)))]) A) (List.toArray [.ref h0, .int p1]) s 0 0 A) (F0 m 132 ls [])) ?_ ?_ ?_ ?_
  · intro x2 x3 x4 x5 x6 x7 xth gnd gre gse glv gal ht H locs ls hP hD hS hl
    refine lv_iload hx hb dX4_count_25 (lv_at hl 7 rfl) ?_
    refine lv_aload_n hx hb dX4_count_27 rfl (lv_at hl 0 rfl) ?_
    refine va_get (D := (dC, dI)) (ci := 4) (v := .int xnv) (C := RX4) (T := TX4) (N := 21) hx hb hts hw0 hown hK hP 0 rfl rfl 1 (by decide) hw1 (fun _ h9 => h9) rfl dX4_count_28 ?_
    refine lv_icmp_ge (tgt := 212) hx hb dX4_count_31 (by decide) (fun c1 => ?_) (fun c1 => ?_)
    · replace ht := ht.1 c1
      refine lv_iload_n hx hb dX4_count_212 rfl (lv_at hl 1 rfl) ?_
      by_cases c2 : p1 = 0
      · replace ht := ht.1 c2
        refine lv_tableIn (off := 51) (tgt := 264) hx hb dX4_count_213 (by rw [c2]; decide) (by rw [c2]; decide) (by rw [c2]; decide) (by decide) ?_
        refine lv_aload_n hx hb dX4_count_264 rfl (lv_at hl 0 rfl) ?_
        refine va_get (D := (dC, dI)) (ci := 4) (v := .int xnv) (C := RX4) (T := TX4) (N := 21) hx hb hts hw0 hown hK hP 0 rfl rfl 1 (by decide) hw1 (fun _ h9 => h9) rfl dX4_count_265 ?_
        have hP9 : va_P (dC, dI) vwCl [(h0, .inr (4, [.int xth, .int xnv, .int xna, .ref agbi, .ref agab, .int xtl, .ref aghv, .ref agic, .ref agbe, .int xmk, .ref agmt, .ref agmv, .ref agma, .ref agnd, .ref agre, .ref agse, .ref aglv, .ref agal, .ref agds, .ref agno, .ref agna])), (agbi, .inl (cI, 60, .inl gbi)), (agab, .inl (cI, 32, .inl gab)), (aghv, .inl (cI, 1920, .inl ghv)), (agic, .inl (cI, 3600, .inl gic)), (agbe, .inl (cI, 3600, .inl gbe)), (agnd, .inl (cI, 60, .inl gnd)), (agre, .inl (cJ, 60, .inr (.inl gre))), (agse, .inl (cI, 60, .inl gse)), (aglv, .inl (cI, 60, .inl glv)), (agal, .inl (cI, 32, .inl gal))] _ := hP
        have hD9 : va_D A [(h0, .inr (4, [.int xth, .int xnv, .int xna, .ref agbi, .ref agab, .int xtl, .ref aghv, .ref agic, .ref agbe, .int xmk, .ref agmt, .ref agmv, .ref agma, .ref agnd, .ref agre, .ref agse, .ref aglv, .ref agal, .ref agds, .ref agno, .ref agna])), (agbi, .inl (cI, 60, .inl gbi)), (agab, .inl (cI, 32, .inl gab)), (aghv, .inl (cI, 1920, .inl ghv)), (agic, .inl (cI, 3600, .inl gic)), (agbe, .inl (cI, 3600, .inl gbe)), (agnd, .inl (cI, 60, .inl gnd)), (agre, .inl (cJ, 60, .inr (.inl gre))), (agse, .inl (cI, 60, .inl gse)), (aglv, .inl (cI, 60, .inl glv)), (agal, .inl (cI, 32, .inl gal))] := hD
        exact W.iret (v := xnv) hx hb hr (fun t ht9 hW => ⟨⟨xnv, (xth, gnd, gre, gse, glv, gal), rfl, ht, by rw [ht9]; exact hP9, va_K.moved hW.alike hK, hD9⟩, hS.F ht9⟩) hS.2.2 dX4_count_268
      · skip
        by_cases c3 : p1 = 1
        · replace ht := ht.2.1 c3
          refine lv_tableIn (off := 56) (tgt := 269) hx hb dX4_count_213 (by rw [c3]; decide) (by rw [c3]; decide) (by rw [c3]; decide) (by decide) ?_
          refine lv_aload_n hx hb dX4_count_269 rfl (lv_at hl 0 rfl) ?_
          refine va_get (D := (dC, dI)) (ci := 4) (v := .int xna) (C := RX4) (T := TX4) (N := 21) hx hb hts hw0 hown hK hP 0 rfl rfl 2 (by decide) hw2 (fun _ h9 => h9) rfl dX4_count_270 ?_
          have hP9 : va_P (dC, dI) vwCl [(h0, .inr (4, [.int xth, .int xnv, .int xna, .ref agbi, .ref agab, .int xtl, .ref aghv, .ref agic, .ref agbe, .int xmk, .ref agmt, .ref agmv, .ref agma, .ref agnd, .ref agre, .ref agse, .ref aglv, .ref agal, .ref agds, .ref agno, .ref agna])), (agbi, .inl (cI, 60, .inl gbi)), (agab, .inl (cI, 32, .inl gab)), (aghv, .inl (cI, 1920, .inl ghv)), (agic, .inl (cI, 3600, .inl gic)), (agbe, .inl (cI, 3600, .inl gbe)), (agnd, .inl (cI, 60, .inl gnd)), (agre, .inl (cJ, 60, .inr (.inl gre))), (agse, .inl (cI, 60, .inl gse)), (aglv, .inl (cI, 60, .inl glv)), (agal, .inl (cI, 32, .inl gal))] _ := hP
          have hD9 : va_D A [(h0, .inr (4, [.int xth, .int xnv, .int xna, .ref agbi, .ref agab, .int xtl, .ref aghv, .ref agic, .ref agbe, .int xmk, .ref agmt, .ref agmv, .ref agma, .ref agnd, .ref agre, .ref agse, .ref aglv, .ref agal, .ref agds, .ref agno, .ref agna])), (agbi, .inl (cI, 60, .inl gbi)), (agab, .inl (cI, 32, .inl gab)), (aghv, .inl (cI, 1920, .inl ghv)), (agic, .inl (cI, 3600, .inl gic)), (agbe, .inl (cI, 3600, .inl gbe)), (agnd, .inl (cI, 60, .inl gnd)), (agre, .inl (cJ, 60, .inr (.inl gre))), (agse, .inl (cI, 60, .inl gse)), (aglv, .inl (cI, 60, .inl glv)), (agal, .inl (cI, 32, .inl gal))] := hD
          exact W.iret (v := xna) hx hb hr (fun t ht9 hW => ⟨⟨xna, (xth, gnd, gre, gse, glv, gal), rfl, ht, by rw [ht9]; exact hP9, va_K.moved hW.alike hK, hD9⟩, hS.F ht9⟩) hS.2.2 dX4_count_273
        · skip
          by_cases c4 : p1 = 2
          · replace ht := ht.2.2.1 c4
            refine lv_tableIn (off := 61) (tgt := 274) hx hb dX4_count_213 (by rw [c4]; decide) (by rw [c4]; decide) (by rw [c4]; decide) (by decide) ?_
            refine lv_iload_n hx hb dX4_count_274 rfl (lv_at hl 2 rfl) ?_
            have hP9 : va_P (dC, dI) vwCl [(h0, .inr (4, [.int xth, .int xnv, .int xna, .ref agbi, .ref agab, .int xtl, .ref aghv, .ref agic, .ref agbe, .int xmk, .ref agmt, .ref agmv, .ref agma, .ref agnd, .ref agre, .ref agse, .ref aglv, .ref agal, .ref agds, .ref agno, .ref agna])), (agbi, .inl (cI, 60, .inl gbi)), (agab, .inl (cI, 32, .inl gab)), (aghv, .inl (cI, 1920, .inl ghv)), (agic, .inl (cI, 3600, .inl gic)), (agbe, .inl (cI, 3600, .inl gbe)), (agnd, .inl (cI, 60, .inl gnd)), (agre, .inl (cJ, 60, .inr (.inl gre))), (agse, .inl (cI, 60, .inl gse)), (aglv, .inl (cI, 60, .inl glv)), (agal, .inl (cI, 32, .inl gal))] _ := hP
            have hD9 : va_D A [(h0, .inr (4, [.int xth, .int xnv, .int xna, .ref agbi, .ref agab, .int xtl, .ref aghv, .ref agic, .ref agbe, .int xmk, .ref agmt, .ref agmv, .ref agma, .ref agnd, .ref agre, .ref agse, .ref aglv, .ref agal, .ref agds, .ref agno, .ref agna])), (agbi, .inl (cI, 60, .inl gbi)), (agab, .inl (cI, 32, .inl gab)), (aghv, .inl (cI, 1920, .inl ghv)), (agic, .inl (cI, 3600, .inl gic)), (agbe, .inl (cI, 3600, .inl gbe)), (agnd, .inl (cI, 60, .inl gnd)), (agre, .inl (cJ, 60, .inr (.inl gre))), (agse, .inl (cI, 60, .inl gse)), (aglv, .inl (cI, 60, .inl glv)), (agal, .inl (cI, 32, .inl gal))] := hD
            exact W.iret (v := x2) hx hb hr (fun t ht9 hW => ⟨⟨x2, (xth, gnd, gre, gse, glv, gal), rfl, ht, by rw [ht9]; exact hP9, va_K.moved hW.alike hK, hD9⟩, hS.F ht9⟩) hS.2.2 dX4_count_275
          · skip
            by_cases c5 : p1 = 3
            · replace ht := ht.2.2.2.1 c5
              refine lv_tableIn (off := 63) (tgt := 276) hx hb dX4_count_213 (by rw [c5]; decide) (by rw [c5]; decide) (by rw [c5]; decide) (by decide) ?_
              refine lv_iload_n hx hb dX4_count_276 rfl (lv_at hl 3 rfl) ?_
              have hP9 : va_P (dC, dI) vwCl [(h0, .inr (4, [.int xth, .int xnv, .int xna, .ref agbi, .ref agab, .int xtl, .ref aghv, .ref agic, .ref agbe, .int xmk, .ref agmt, .ref agmv, .ref agma, .ref agnd, .ref agre, .ref agse, .ref aglv, .ref agal, .ref agds, .ref agno, .ref agna])), (agbi, .inl (cI, 60, .inl gbi)), (agab, .inl (cI, 32, .inl gab)), (aghv, .inl (cI, 1920, .inl ghv)), (agic, .inl (cI, 3600, .inl gic)), (agbe, .inl (cI, 3600, .inl gbe)), (agnd, .inl (cI, 60, .inl gnd)), (agre, .inl (cJ, 60, .inr (.inl gre))), (agse, .inl (cI, 60, .inl gse)), (aglv, .inl (cI, 60, .inl glv)), (agal, .inl (cI, 32, .inl gal))] _ := hP
              have hD9 : va_D A [(h0, .inr (4, [.int xth, .int xnv, .int xna, .ref agbi, .ref agab, .int xtl, .ref aghv, .ref agic, .ref agbe, .int xmk, .ref agmt, .ref agmv, .ref agma, .ref agnd, .ref agre, .ref agse, .ref aglv, .ref agal, .ref agds, .ref agno, .ref agna])), (agbi, .inl (cI, 60, .inl gbi)), (agab, .inl (cI, 32, .inl gab)), (aghv, .inl (cI, 1920, .inl ghv)), (agic, .inl (cI, 3600, .inl gic)), (agbe, .inl (cI, 3600, .inl gbe)), (agnd, .inl (cI, 60, .inl gnd)), (agre, .inl (cJ, 60, .inr (.inl gre))), (agse, .inl (cI, 60, .inl gse)), (aglv, .inl (cI, 60, .inl glv)), (agal, .inl (cI, 32, .inl gal))] := hD
              exact W.iret (v := x3) hx hb hr (fun t ht9 hW => ⟨⟨x3, (xth, gnd, gre, gse, glv, gal), rfl, ht, by rw [ht9]; exact hP9, va_K.moved hW.alike hK, hD9⟩, hS.F ht9⟩) hS.2.2 dX4_count_277
            · skip
              by_cases c6 : p1 = 4
              · replace ht := ht.2.2.2.2.1 c6
                refine lv_tableIn (off := 65) (tgt := 278) hx hb dX4_count_213 (by rw [c6]; decide) (by rw [c6]; decide) (by rw [c6]; decide) (by decide) ?_
                refine lv_iload hx hb dX4_count_278 (lv_at hl 4 rfl) ?_
                have hP9 : va_P (dC, dI) vwCl [(h0, .inr (4, [.int xth, .int xnv, .int xna, .ref agbi, .ref agab, .int xtl, .ref aghv, .ref agic, .ref agbe, .int xmk, .ref agmt, .ref agmv, .ref agma, .ref agnd, .ref agre, .ref agse, .ref aglv, .ref agal, .ref agds, .ref agno, .ref agna])), (agbi, .inl (cI, 60, .inl gbi)), (agab, .inl (cI, 32, .inl gab)), (aghv, .inl (cI, 1920, .inl ghv)), (agic, .inl (cI, 3600, .inl gic)), (agbe, .inl (cI, 3600, .inl gbe)), (agnd, .inl (cI, 60, .inl gnd)), (agre, .inl (cJ, 60, .inr (.inl gre))), (agse, .inl (cI, 60, .inl gse)), (aglv, .inl (cI, 60, .inl glv)), (agal, .inl (cI, 32, .inl gal))] _ := hP
                have hD9 : va_D A [(h0, .inr (4, [.int xth, .int xnv, .int xna, .ref agbi, .ref agab, .int xtl, .ref aghv, .ref agic, .ref agbe, .int xmk, .ref agmt, .ref agmv, .ref agma, .ref agnd, .ref agre, .ref agse, .ref aglv, .ref agal, .ref agds, .ref agno, .ref agna])), (agbi, .inl (cI, 60, .inl gbi)), (agab, .inl (cI, 32, .inl gab)), (aghv, .inl (cI, 1920, .inl ghv)), (agic, .inl (cI, 3600, .inl gic)), (agbe, .inl (cI, 3600, .inl gbe)), (agnd, .inl (cI, 60, .inl gnd)), (agre, .inl (cJ, 60, .inr (.inl gre))), (agse, .inl (cI, 60, .inl gse)), (aglv, .inl (cI, 60, .inl glv)), (agal, .inl (cI, 32, .inl gal))] := hD
                exact W.iret (v := x4) hx hb hr (fun t ht9 hW => ⟨⟨x4, (xth, gnd, gre, gse, glv, gal), rfl, ht, by rw [ht9]; exact hP9, va_K.moved hW.alike hK, hD9⟩, hS.F ht9⟩) hS.2.2 dX4_count_280
              · skip
                by_cases c7 : p1 = 5
                · replace ht := ht.2.2.2.2.2.1 c7
                  refine lv_tableIn (off := 68) (tgt := 281) hx hb dX4_count_213 (by rw [c7]; decide) (by rw [c7]; decide) (by rw [c7]; decide) (by decide) ?_
                  refine lv_iload hx hb dX4_count_281 (lv_at hl 5 rfl) ?_
                  have hP9 : va_P (dC, dI) vwCl [(h0, .inr (4, [.int xth, .int xnv, .int xna, .ref agbi, .ref agab, .int xtl, .ref aghv, .ref agic, .ref agbe, .int xmk, .ref agmt, .ref agmv, .ref agma, .ref agnd, .ref agre, .ref agse, .ref aglv, .ref agal, .ref agds, .ref agno, .ref agna])), (agbi, .inl (cI, 60, .inl gbi)), (agab, .inl (cI, 32, .inl gab)), (aghv, .inl (cI, 1920, .inl ghv)), (agic, .inl (cI, 3600, .inl gic)), (agbe, .inl (cI, 3600, .inl gbe)), (agnd, .inl (cI, 60, .inl gnd)), (agre, .inl (cJ, 60, .inr (.inl gre))), (agse, .inl (cI, 60, .inl gse)), (aglv, .inl (cI, 60, .inl glv)), (agal, .inl (cI, 32, .inl gal))] _ := hP
                  have hD9 : va_D A [(h0, .inr (4, [.int xth, .int xnv, .int xna, .ref agbi, .ref agab, .int xtl, .ref aghv, .ref agic, .ref agbe, .int xmk, .ref agmt, .ref agmv, .ref agma, .ref agnd, .ref agre, .ref agse, .ref aglv, .ref agal, .ref agds, .ref agno, .ref agna])), (agbi, .inl (cI, 60, .inl gbi)), (agab, .inl (cI, 32, .inl gab)), (aghv, .inl (cI, 1920, .inl ghv)), (agic, .inl (cI, 3600, .inl gic)), (agbe, .inl (cI, 3600, .inl gbe)), (agnd, .inl (cI, 60, .inl gnd)), (agre, .inl (cJ, 60, .inr (.inl gre))), (agse, .inl (cI, 60, .inl gse)), (aglv, .inl (cI, 60, .inl glv)), (agal, .inl (cI, 32, .inl gal))] := hD
                  exact W.iret (v := x5) hx hb hr (fun t ht9 hW => ⟨⟨x5, (xth, gnd, gre, gse, glv, gal), rfl, ht, by rw [ht9]; exact hP9, va_K.moved hW.alike hK, hD9⟩, hS.F ht9⟩) hS.2.2 dX4_count_283
                · skip
                  by_cases c8 : p1 = 6
                  · replace ht := ht.2.2.2.2.2.2.1 c8
                    refine lv_tableIn (off := 71) (tgt := 284) hx hb dX4_count_213 (by rw [c8]; decide) (by rw [c8]; decide) (by rw [c8]; decide) (by decide) ?_
                    refine lv_iload hx hb dX4_count_284 (lv_at hl 6 rfl) ?_
                    have hP9 : va_P (dC, dI) vwCl [(h0, .inr (4, [.int xth, .int xnv, .int xna, .ref agbi, .ref agab, .int xtl, .ref aghv, .ref agic, .ref agbe, .int xmk, .ref agmt, .ref agmv, .ref agma, .ref agnd, .ref agre, .ref agse, .ref aglv, .ref agal, .ref agds, .ref agno, .ref agna])), (agbi, .inl (cI, 60, .inl gbi)), (agab, .inl (cI, 32, .inl gab)), (aghv, .inl (cI, 1920, .inl ghv)), (agic, .inl (cI, 3600, .inl gic)), (agbe, .inl (cI, 3600, .inl gbe)), (agnd, .inl (cI, 60, .inl gnd)), (agre, .inl (cJ, 60, .inr (.inl gre))), (agse, .inl (cI, 60, .inl gse)), (aglv, .inl (cI, 60, .inl glv)), (agal, .inl (cI, 32, .inl gal))] _ := hP
                    have hD9 : va_D A [(h0, .inr (4, [.int xth, .int xnv, .int xna, .ref agbi, .ref agab, .int xtl, .ref aghv, .ref agic, .ref agbe, .int xmk, .ref agmt, .ref agmv, .ref agma, .ref agnd, .ref agre, .ref agse, .ref aglv, .ref agal, .ref agds, .ref agno, .ref agna])), (agbi, .inl (cI, 60, .inl gbi)), (agab, .inl (cI, 32, .inl gab)), (aghv, .inl (cI, 1920, .inl ghv)), (agic, .inl (cI, 3600, .inl gic)), (agbe, .inl (cI, 3600, .inl gbe)), (agnd, .inl (cI, 60, .inl gnd)), (agre, .inl (cJ, 60, .inr (.inl gre))), (agse, .inl (cI, 60, .inl gse)), (aglv, .inl (cI, 60, .inl glv)), (agal, .inl (cI, 32, .inl gal))] := hD
                    exact W.iret (v := x6) hx hb hr (fun t ht9 hW => ⟨⟨x6, (xth, gnd, gre, gse, glv, gal), rfl, ht, by rw [ht9]; exact hP9, va_K.moved hW.alike hK, hD9⟩, hS.F ht9⟩) hS.2.2 dX4_count_286
                  · skip
                    by_cases c9 : p1 = 7
                    · replace ht := ht.2.2.2.2.2.2.2.1 c9
                      refine lv_tableIn (off := 74) (tgt := 287) hx hb dX4_count_213 (by rw [c9]; decide) (by rw [c9]; decide) (by rw [c9]; decide) (by decide) ?_
                      refine lv_aload_n hx hb dX4_count_287 rfl (lv_at hl 0 rfl) ?_
                      refine va_get (D := (dC, dI)) (ci := 4) (v := .int xmk) (C := RX4) (T := TX4) (N := 21) hx hb hts hw0 hown hK hP 0 rfl rfl 9 (by decide) hw3 (fun _ h9 => h9) rfl dX4_count_288 ?_
                      have hP9 : va_P (dC, dI) vwCl [(h0, .inr (4, [.int xth, .int xnv, .int xna, .ref agbi, .ref agab, .int xtl, .ref aghv, .ref agic, .ref agbe, .int xmk, .ref agmt, .ref agmv, .ref agma, .ref agnd, .ref agre, .ref agse, .ref aglv, .ref agal, .ref agds, .ref agno, .ref agna])), (agbi, .inl (cI, 60, .inl gbi)), (agab, .inl (cI, 32, .inl gab)), (aghv, .inl (cI, 1920, .inl ghv)), (agic, .inl (cI, 3600, .inl gic)), (agbe, .inl (cI, 3600, .inl gbe)), (agnd, .inl (cI, 60, .inl gnd)), (agre, .inl (cJ, 60, .inr (.inl gre))), (agse, .inl (cI, 60, .inl gse)), (aglv, .inl (cI, 60, .inl glv)), (agal, .inl (cI, 32, .inl gal))] _ := hP
                      have hD9 : va_D A [(h0, .inr (4, [.int xth, .int xnv, .int xna, .ref agbi, .ref agab, .int xtl, .ref aghv, .ref agic, .ref agbe, .int xmk, .ref agmt, .ref agmv, .ref agma, .ref agnd, .ref agre, .ref agse, .ref aglv, .ref agal, .ref agds, .ref agno, .ref agna])), (agbi, .inl (cI, 60, .inl gbi)), (agab, .inl (cI, 32, .inl gab)), (aghv, .inl (cI, 1920, .inl ghv)), (agic, .inl (cI, 3600, .inl gic)), (agbe, .inl (cI, 3600, .inl gbe)), (agnd, .inl (cI, 60, .inl gnd)), (agre, .inl (cJ, 60, .inr (.inl gre))), (agse, .inl (cI, 60, .inl gse)), (aglv, .inl (cI, 60, .inl glv)), (agal, .inl (cI, 32, .inl gal))] := hD
                      exact W.iret (v := xmk) hx hb hr (fun t ht9 hW => ⟨⟨xmk, (xth, gnd, gre, gse, glv, gal), rfl, ht, by rw [ht9]; exact hP9, va_K.moved hW.alike hK, hD9⟩, hS.F ht9⟩) hS.2.2 dX4_count_291
                    · skip
                      by_cases c10 : p1 = 8
                      · replace ht := ht.2.2.2.2.2.2.2.2.1 c10
                        refine lv_tableIn (off := 79) (tgt := 292) hx hb dX4_count_213 (by rw [c10]; decide) (by rw [c10]; decide) (by rw [c10]; decide) (by decide) ?_
                        refine lv_aload_n hx hb dX4_count_292 rfl (lv_at hl 0 rfl) ?_
                        have hPc := hP.sub (ws' := [(h0, .inr (4, [.int xth, .int xnv, .int xna, .ref agbi, .ref agab, .int xtl, .ref aghv, .ref agic, .ref agbe, .int xmk, .ref agmt, .ref agmv, .ref agma, .ref agnd, .ref agre, .ref agse, .ref aglv, .ref agal, .ref agds, .ref agno, .ref agna])), (agse, .inl (cI, 60, .inl gse))]) [0, 8] rfl
                        have hDc := hD.sub (ws' := [(h0, .inr (4, [.int xth, .int xnv, .int xna, .ref agbi, .ref agab, .int xtl, .ref aghv, .ref agic, .ref agbe, .int xmk, .ref agmt, .ref agmv, .ref agma, .ref agnd, .ref agre, .ref agse, .ref aglv, .ref agal, .ref agds, .ref agno, .ref agna])), (agse, .inl (cI, 60, .inl gse))]) [0, 8] (by decide) rfl
                        have hFc := va_free (wc := [(h0, .inr (4, [.int xth, .int xnv, .int xna, .ref agbi, .ref agab, .int xtl, .ref aghv, .ref agic, .ref agbe, .int xmk, .ref agmt, .ref agmv, .ref agma, .ref agnd, .ref agre, .ref agse, .ref aglv, .ref agal, .ref agds, .ref agno, .ref agna])), (agse, .inl (cI, 60, .inl gse))]) hD hS hA [0, 8] rfl
                        refine va_calli (va_runV (As := []) (rest := []) ⟨hx, hb, hml, hown, hts⟩ (c_X4_inSets l dC dI cI cJ h0 agbi agab aghv agic agbe agmt agmv agma agnd agre agse aglv agal agds agno agna xth xnv xna xtl xmk gse H.size _ ht) (cwV 0 hts gX4_count_X4_inSets rfl rfl rfl (by decide +kernel) ⟨Nat.le_of_ble_eq_true rfl, Nat.le_of_ble_eq_true rfl⟩) ⟨fun a U g mk q => by obtain ⟨q0, q1, qP, qK, qD, qN⟩ := q; exact ⟨q0, q1, qP, va_K.moved (u := U) (U := U.calling g mk a) (Vm.Alike.refl U.vm) qK, qD, nw_same rfl qN⟩, va_recv hK hP (ci := 4) (q0 := 0) rfl rfl, fun U hU hW => ⟨rfl, by rw [hU], by rw [hU]; exact hPc, va_K.moved hW.alike hK, hDc.weaken (fun _ _ _ _ => trivial), nw_warm hW hN⟩⟩ rfl rfl hl.1 rfl (lv_room (Nat.le_of_ble_eq_true rfl)) dX4_count_293 ⟨Nat.le_of_ble_eq_true rfl, Nat.le_of_ble_eq_true rfl⟩) hS (fun q _ h => hFc q h) hFc (fun r11 u t H1 locs ht9 hvm hw hB hz1 hk1 hS => ?_)
                        obtain ⟨hP1, hK1, hD1⟩ := hB
                        rw [ht9] at hP1
                        try dsimp only at hw
                        replace ht := hw
                        obtain ⟨hP, hD⟩ := va_join (wr := [(agbi, .inl (cI, 60, .inl gbi)), (agab, .inl (cI, 32, .inl gab)), (aghv, .inl (cI, 1920, .inl ghv)), (agic, .inl (cI, 3600, .inl gic)), (agbe, .inl (cI, 3600, .inl gbe)), (agnd, .inl (cI, 60, .inl gnd)), (agre, .inl (cJ, 60, .inr (.inl gre))), (aglv, .inl (cI, 60, .inl glv)), (agal, .inl (cI, 32, .inl gal))]) (w1 := [(h0, .inr (4, [.int xth, .int xnv, .int xna, .ref agbi, .ref agab, .int xtl, .ref aghv, .ref agic, .ref agbe, .int xmk, .ref agmt, .ref agmv, .ref agma, .ref agnd, .ref agre, .ref agse, .ref aglv, .ref agal, .ref agds, .ref agno, .ref agna])), (agse, .inl (cI, 60, .inl gse))]) hP hD [0, 8] [1, 2, 3, 4, 5, 6, 7, 9, 10] rfl rfl (by decide) (by decide) hk1 hFc hP1 hD1
                        generalize H1 = H at hP hS ⊢
                        replace hP : va_P (dC, dI) vwCl [(agbi, .inl (cI, 60, .inl gbi)), (agab, .inl (cI, 32, .inl gab)), (aghv, .inl (cI, 1920, .inl ghv)), (agic, .inl (cI, 3600, .inl gic)), (agbe, .inl (cI, 3600, .inl gbe)), (agnd, .inl (cI, 60, .inl gnd)), (agre, .inl (cJ, 60, .inr (.inl gre))), (aglv, .inl (cI, 60, .inl glv)), (agal, .inl (cI, 32, .inl gal)), (h0, .inr (4, [.int xth, .int xnv, .int xna, .ref agbi, .ref agab, .int xtl, .ref aghv, .ref agic, .ref agbe, .int xmk, .ref agmt, .ref agmv, .ref agma, .ref agnd, .ref agre, .ref agse, .ref aglv, .ref agal, .ref agds, .ref agno, .ref agna])), (agse, .inl (cI, 60, .inl gse))] H := hP
                        replace hD : va_D A [(agbi, .inl (cI, 60, .inl gbi)), (agab, .inl (cI, 32, .inl gab)), (aghv, .inl (cI, 1920, .inl ghv)), (agic, .inl (cI, 3600, .inl gic)), (agbe, .inl (cI, 3600, .inl gbe)), (agnd, .inl (cI, 60, .inl gnd)), (agre, .inl (cJ, 60, .inr (.inl gre))), (aglv, .inl (cI, 60, .inl glv)), (agal, .inl (cI, 32, .inl gal)), (h0, .inr (4, [.int xth, .int xnv, .int xna, .ref agbi, .ref agab, .int xtl, .ref aghv, .ref agic, .ref agbe, .int xmk, .ref agmt, .ref agmv, .ref agma, .ref agnd, .ref agre, .ref agse, .ref aglv, .ref agal, .ref agds, .ref agno, .ref agna])), (agse, .inl (cI, 60, .inl gse))] := hD
                        have hP9 : va_P (dC, dI) vwCl [(h0, .inr (4, [.int xth, .int xnv, .int xna, .ref agbi, .ref agab, .int xtl, .ref aghv, .ref agic, .ref agbe, .int xmk, .ref agmt, .ref agmv, .ref agma, .ref agnd, .ref agre, .ref agse, .ref aglv, .ref agal, .ref agds, .ref agno, .ref agna])), (agbi, .inl (cI, 60, .inl gbi)), (agab, .inl (cI, 32, .inl gab)), (aghv, .inl (cI, 1920, .inl ghv)), (agic, .inl (cI, 3600, .inl gic)), (agbe, .inl (cI, 3600, .inl gbe)), (agnd, .inl (cI, 60, .inl gnd)), (agre, .inl (cJ, 60, .inr (.inl gre))), (agse, .inl (cI, 60, .inl gse)), (aglv, .inl (cI, 60, .inl glv)), (agal, .inl (cI, 32, .inl gal))] _ := (hP.sub [9, 0, 1, 2, 3, 4, 5, 6, 10, 7, 8] rfl)
                        have hD9 : va_D A [(h0, .inr (4, [.int xth, .int xnv, .int xna, .ref agbi, .ref agab, .int xtl, .ref aghv, .ref agic, .ref agbe, .int xmk, .ref agmt, .ref agmv, .ref agma, .ref agnd, .ref agre, .ref agse, .ref aglv, .ref agal, .ref agds, .ref agno, .ref agna])), (agbi, .inl (cI, 60, .inl gbi)), (agab, .inl (cI, 32, .inl gab)), (aghv, .inl (cI, 1920, .inl ghv)), (agic, .inl (cI, 3600, .inl gic)), (agbe, .inl (cI, 3600, .inl gbe)), (agnd, .inl (cI, 60, .inl gnd)), (agre, .inl (cJ, 60, .inr (.inl gre))), (agse, .inl (cI, 60, .inl gse)), (aglv, .inl (cI, 60, .inl glv)), (agal, .inl (cI, 32, .inl gal))] := (hD.sub [9, 0, 1, 2, 3, 4, 5, 6, 10, 7, 8] (by decide) rfl)
                        exact W.iret (v := r11) hx hb hr (fun t ht9 hW => ⟨⟨r11, (xth, gnd, gre, gse, glv, gal), rfl, ht, by rw [ht9]; exact hP9, va_K.moved hW.alike hK, hD9⟩, hS.F ht9⟩) hS.2.2 dX4_count_296
                      · skip
                        replace ht := ht.2.2.2.2.2.2.2.2.2 c2 c3 c4 c5 c6 c7 c8 c9 c10
                        have nc2 := lv_neT c2 (k := 0) (a := 0) rfl
                        have nc3 := lv_neT c3 (k := 1) (a := 1) rfl
                        have nc4 := lv_neT c4 (k := 2) (a := 2) rfl
                        have nc5 := lv_neT c5 (k := 3) (a := 3) rfl
                        have nc6 := lv_neT c6 (k := 4) (a := 4) rfl
                        have nc7 := lv_neT c7 (k := 5) (a := 5) rfl
                        have nc8 := lv_neT c8 (k := 6) (a := 6) rfl
                        have nc9 := lv_neT c9 (k := 7) (a := 7) rfl
                        have nc10 := lv_neT c10 (k := 8) (a := 8) rfl
                        refine lv_tableOut (tgt := 297) hx hb dX4_count_213 (by omega) (by decide) ?_
                        refine lv_iconst (v := (-1)) hx hb dX4_count_297 (by decide) ?_
                        have hP9 : va_P (dC, dI) vwCl [(h0, .inr (4, [.int xth, .int xnv, .int xna, .ref agbi, .ref agab, .int xtl, .ref aghv, .ref agic, .ref agbe, .int xmk, .ref agmt, .ref agmv, .ref agma, .ref agnd, .ref agre, .ref agse, .ref aglv, .ref agal, .ref agds, .ref agno, .ref agna])), (agbi, .inl (cI, 60, .inl gbi)), (agab, .inl (cI, 32, .inl gab)), (aghv, .inl (cI, 1920, .inl ghv)), (agic, .inl (cI, 3600, .inl gic)), (agbe, .inl (cI, 3600, .inl gbe)), (agnd, .inl (cI, 60, .inl gnd)), (agre, .inl (cJ, 60, .inr (.inl gre))), (agse, .inl (cI, 60, .inl gse)), (aglv, .inl (cI, 60, .inl glv)), (agal, .inl (cI, 32, .inl gal))] _ := hP
                        have hD9 : va_D A [(h0, .inr (4, [.int xth, .int xnv, .int xna, .ref agbi, .ref agab, .int xtl, .ref aghv, .ref agic, .ref agbe, .int xmk, .ref agmt, .ref agmv, .ref agma, .ref agnd, .ref agre, .ref agse, .ref aglv, .ref agal, .ref agds, .ref agno, .ref agna])), (agbi, .inl (cI, 60, .inl gbi)), (agab, .inl (cI, 32, .inl gab)), (aghv, .inl (cI, 1920, .inl ghv)), (agic, .inl (cI, 3600, .inl gic)), (agbe, .inl (cI, 3600, .inl gbe)), (agnd, .inl (cI, 60, .inl gnd)), (agre, .inl (cJ, 60, .inr (.inl gre))), (agse, .inl (cI, 60, .inl gse)), (aglv, .inl (cI, 60, .inl glv)), (agal, .inl (cI, 32, .inl gal))] := hD
                        exact W.iret (v := (-1)) hx hb hr (fun t ht9 hW => ⟨⟨(-1), (xth, gnd, gre, gse, glv, gal), rfl, ht, by rw [ht9]; exact hP9, va_K.moved hW.alike hK, hD9⟩, hS.F ht9⟩) hS.2.2 dX4_count_298
    · replace ht := ht.2 c1
      refine lv_iload_n hx hb dX4_count_34 rfl (lv_at hl 2 rfl) ?_
      refine lv_aload_n hx hb dX4_count_35 rfl (lv_at hl 0 rfl) ?_
      refine va_get (D := (dC, dI)) (ci := 4) (v := .ref agnd) (C := RX4) (T := TX4) (N := 21) hx hb hts hw0 hown hK hP 0 rfl rfl 13 (by decide) hw4 (fun _ h9 => h9) rfl dX4_count_36 ?_
      refine lv_iload hx hb dX4_count_39 (lv_at hl 7 rfl) ?_
      obtain ⟨i12, ht⟩ := ht
      refine va_iald hx hb hK hP 6 0 rfl rfl i12 dX4_count_41 ?_
      refine lv_iload hx hb dX4_count_42 (lv_at hl 7 rfl) ?_
      refine lv_icmp_ne (tgt := 51) hx hb dX4_count_44 (by decide) (fun c13 => ?_) (fun c13 => ?_)
      · replace ht := ht.1 c13
        refine lv_iconst (v := 0) hx hb dX4_count_51 (by decide) ?_
        refine lv_iadd hx hb dX4_count_52 ?_
        refine lv_topi (fun y14 ey14 => ?_)
        replace ht := ht y14 ey14
        refine lv_istore_n (lv' := [(2, .int y14), (0, .ref h0), (1, .int p1), (3, .int x3), (4, .int x4), (5, .int x5), (6, .int x6), (7, .int x7)]) hx hb dX4_count_53 rfl hl (by decide) rfl (fun ls hl => ?_)
        refine lv_iload_n hx hb dX4_count_54 rfl (lv_at hl 3 rfl) ?_
        refine lv_aload_n hx hb dX4_count_55 rfl (lv_at hl 1 rfl) ?_
        refine va_get (D := (dC, dI)) (ci := 4) (v := .ref agnd) (C := RX4) (T := TX4) (N := 21) hx hb hts hw0 hown hK hP 0 rfl rfl 13 (by decide) hw4 (fun _ h9 => h9) rfl dX4_count_56 ?_
        refine lv_iload hx hb dX4_count_59 (lv_at hl 7 rfl) ?_
        refine va_iald hx hb hK hP 6 0 rfl rfl i12 dX4_count_61 ?_
        refine lv_iload hx hb dX4_count_62 (lv_at hl 7 rfl) ?_
        refine lv_icmp_ne (tgt := 82) hx hb dX4_count_64 (by decide) (fun c15 => ?_) (fun c15 => ?_)
        · replace ht := ht.1 c15
          refine lv_iconst (v := 0) hx hb dX4_count_82 (by decide) ?_
          refine lv_iadd hx hb dX4_count_83 ?_
          refine lv_topi (fun y16 ey16 => ?_)
          replace ht := ht y16 ey16
          refine lv_istore_n (lv' := [(3, .int y16), (2, .int y14), (0, .ref h0), (1, .int p1), (4, .int x4), (5, .int x5), (6, .int x6), (7, .int x7)]) hx hb dX4_count_84 rfl hl (by decide) rfl (fun ls hl => ?_)
          refine lv_iconst (v := 0) hx hb dX4_count_85 (by decide) ?_
          refine lv_istore (lv' := [(8, .int 0), (3, .int y16), (2, .int y14), (0, .ref h0), (1, .int p1), (4, .int x4), (5, .int x5), (6, .int x6), (7, .int x7)]) hx hb dX4_count_86 hl (by decide) rfl (fun ls hl => ?_)
          exact ht _ _ _ hP hD hS (lv_sub hl [3, 4, 2, 1, 5, 6, 7, 8, 0] rfl)
        · replace ht := ht.2 c15
          refine lv_aload_n hx hb dX4_count_67 rfl (lv_at hl 1 rfl) ?_
          refine lv_iload hx hb dX4_count_68 (lv_at hl 7 rfl) ?_
          have hPc := hP.sub (ws' := [(h0, .inr (4, [.int xth, .int xnv, .int xna, .ref agbi, .ref agab, .int xtl, .ref aghv, .ref agic, .ref agbe, .int xmk, .ref agmt, .ref agmv, .ref agma, .ref agnd, .ref agre, .ref agse, .ref aglv, .ref agal, .ref agds, .ref agno, .ref agna])), (agnd, .inl (cI, 60, .inl gnd)), (agre, .inl (cJ, 60, .inr (.inl gre)))]) [0, 6, 7] rfl
          have hDc := hD.sub (ws' := [(h0, .inr (4, [.int xth, .int xnv, .int xna, .ref agbi, .ref agab, .int xtl, .ref aghv, .ref agic, .ref agbe, .int xmk, .ref agmt, .ref agmv, .ref agma, .ref agnd, .ref agre, .ref agse, .ref aglv, .ref agal, .ref agds, .ref agno, .ref agna])), (agnd, .inl (cI, 60, .inl gnd)), (agre, .inl (cJ, 60, .inr (.inl gre)))]) [0, 6, 7] (by decide) rfl
          have hFc := va_free (wc := [(h0, .inr (4, [.int xth, .int xnv, .int xna, .ref agbi, .ref agab, .int xtl, .ref aghv, .ref agic, .ref agbe, .int xmk, .ref agmt, .ref agmv, .ref agma, .ref agnd, .ref agre, .ref agse, .ref aglv, .ref agal, .ref agds, .ref agno, .ref agna])), (agnd, .inl (cI, 60, .inl gnd)), (agre, .inl (cJ, 60, .inr (.inl gre)))]) hD hS hA [0, 6, 7] rfl
          refine va_calli (va_runV (As := [.int x7]) (rest := [.int x3]) ⟨hx, hb, hml, hown, hts⟩ (c_X4_ring l dC dI cI cJ h0 agbi agab aghv agic agbe agmt agmv agma agnd agre agse aglv agal agds agno agna xth xnv xna xtl xmk gnd gre H.size x7 _ ht) (cwV 1 hts gX4_count_X4_ring rfl rfl rfl (by decide +kernel) ⟨Nat.le_of_ble_eq_true rfl, Nat.le_of_ble_eq_true rfl⟩) ⟨fun a U g mk q => by obtain ⟨q0, q1, qP, qK, qD, qN⟩ := q; exact ⟨q0, q1, qP, va_K.moved (u := U) (U := U.calling g mk a) (Vm.Alike.refl U.vm) qK, qD, nw_same rfl qN⟩, va_recv hK hP (ci := 4) (q0 := 0) rfl rfl, fun U hU hW => ⟨rfl, by rw [hU], by rw [hU]; exact hPc, va_K.moved hW.alike hK, hDc.weaken (fun _ _ _ _ => trivial), nw_warm hW hN⟩⟩ rfl rfl hl.1 rfl (lv_room (Nat.le_of_ble_eq_true rfl)) dX4_count_70 ⟨Nat.le_of_ble_eq_true rfl, Nat.le_of_ble_eq_true rfl⟩) hS (fun q _ h => hFc q h) hFc (fun r17 u t H1 locs ht9 hvm hw hB hz1 hk1 hS => ?_)
          obtain ⟨hP1, hK1, hD1⟩ := hB
          rw [ht9] at hP1
          try dsimp only at hw
          replace ht := hw
          obtain ⟨hP, hD⟩ := va_join (wr := [(agbi, .inl (cI, 60, .inl gbi)), (agab, .inl (cI, 32, .inl gab)), (aghv, .inl (cI, 1920, .inl ghv)), (agic, .inl (cI, 3600, .inl gic)), (agbe, .inl (cI, 3600, .inl gbe)), (agse, .inl (cI, 60, .inl gse)), (aglv, .inl (cI, 60, .inl glv)), (agal, .inl (cI, 32, .inl gal))]) (w1 := [(h0, .inr (4, [.int xth, .int xnv, .int xna, .ref agbi, .ref agab, .int xtl, .ref aghv, .ref agic, .ref agbe, .int xmk, .ref agmt, .ref agmv, .ref agma, .ref agnd, .ref agre, .ref agse, .ref aglv, .ref agal, .ref agds, .ref agno, .ref agna])), (agnd, .inl (cI, 60, .inl gnd)), (agre, .inl (cJ, 60, .inr (.inl gre)))]) hP hD [0, 6, 7] [1, 2, 3, 4, 5, 8, 9, 10] rfl rfl (by decide) (by decide) hk1 hFc hP1 hD1
          generalize H1 = H at hP hS ⊢
          replace hP : va_P (dC, dI) vwCl [(agbi, .inl (cI, 60, .inl gbi)), (agab, .inl (cI, 32, .inl gab)), (aghv, .inl (cI, 1920, .inl ghv)), (agic, .inl (cI, 3600, .inl gic)), (agbe, .inl (cI, 3600, .inl gbe)), (agse, .inl (cI, 60, .inl gse)), (aglv, .inl (cI, 60, .inl glv)), (agal, .inl (cI, 32, .inl gal)), (h0, .inr (4, [.int xth, .int xnv, .int xna, .ref agbi, .ref agab, .int xtl, .ref aghv, .ref agic, .ref agbe, .int xmk, .ref agmt, .ref agmv, .ref agma, .ref agnd, .ref agre, .ref agse, .ref aglv, .ref agal, .ref agds, .ref agno, .ref agna])), (agnd, .inl (cI, 60, .inl gnd)), (agre, .inl (cJ, 60, .inr (.inl gre)))] H := hP
          replace hD : va_D A [(agbi, .inl (cI, 60, .inl gbi)), (agab, .inl (cI, 32, .inl gab)), (aghv, .inl (cI, 1920, .inl ghv)), (agic, .inl (cI, 3600, .inl gic)), (agbe, .inl (cI, 3600, .inl gbe)), (agse, .inl (cI, 60, .inl gse)), (aglv, .inl (cI, 60, .inl glv)), (agal, .inl (cI, 32, .inl gal)), (h0, .inr (4, [.int xth, .int xnv, .int xna, .ref agbi, .ref agab, .int xtl, .ref aghv, .ref agic, .ref agbe, .int xmk, .ref agmt, .ref agmv, .ref agma, .ref agnd, .ref agre, .ref agse, .ref aglv, .ref agal, .ref agds, .ref agno, .ref agna])), (agnd, .inl (cI, 60, .inl gnd)), (agre, .inl (cJ, 60, .inr (.inl gre)))] := hD
          refine lv_iload hx hb dX4_count_73 (lv_at hl 7 rfl) ?_
          refine lv_icmp_ne (tgt := 82) hx hb dX4_count_75 (by decide) (fun c18 => ?_) (fun c18 => ?_)
          · replace ht := ht.1 c18
            refine lv_iconst (v := 0) hx hb dX4_count_82 (by decide) ?_
            refine lv_iadd hx hb dX4_count_83 ?_
            refine lv_topi (fun y19 ey19 => ?_)
            replace ht := ht y19 ey19
            refine lv_istore_n (lv' := [(3, .int y19), (2, .int y14), (0, .ref h0), (1, .int p1), (4, .int x4), (5, .int x5), (6, .int x6), (7, .int x7)]) hx hb dX4_count_84 rfl hl (by decide) rfl (fun ls hl => ?_)
            refine lv_iconst (v := 0) hx hb dX4_count_85 (by decide) ?_
            refine lv_istore (lv' := [(8, .int 0), (3, .int y19), (2, .int y14), (0, .ref h0), (1, .int p1), (4, .int x4), (5, .int x5), (6, .int x6), (7, .int x7)]) hx hb dX4_count_86 hl (by decide) rfl (fun ls hl => ?_)
            exact ht _ _ _ (hP.sub [8, 0, 1, 2, 3, 4, 9, 10, 5, 6, 7] rfl) (hD.sub [8, 0, 1, 2, 3, 4, 9, 10, 5, 6, 7] (by decide) rfl) hS (lv_sub hl [3, 4, 2, 1, 5, 6, 7, 8, 0] rfl)
          · replace ht := ht.2 c18
            refine lv_iconst (v := 1) hx hb dX4_count_78 (by decide) ?_
            refine lv_goto (tgt := 83) hx hb dX4_count_79 (by decide) ?_
            refine lv_iadd hx hb dX4_count_83 ?_
            refine lv_topi (fun y20 ey20 => ?_)
            replace ht := ht y20 ey20
            refine lv_istore_n (lv' := [(3, .int y20), (2, .int y14), (0, .ref h0), (1, .int p1), (4, .int x4), (5, .int x5), (6, .int x6), (7, .int x7)]) hx hb dX4_count_84 rfl hl (by decide) rfl (fun ls hl => ?_)
            refine lv_iconst (v := 0) hx hb dX4_count_85 (by decide) ?_
            refine lv_istore (lv' := [(8, .int 0), (3, .int y20), (2, .int y14), (0, .ref h0), (1, .int p1), (4, .int x4), (5, .int x5), (6, .int x6), (7, .int x7)]) hx hb dX4_count_86 hl (by decide) rfl (fun ls hl => ?_)
            exact ht _ _ _ (hP.sub [8, 0, 1, 2, 3, 4, 9, 10, 5, 6, 7] rfl) (hD.sub [8, 0, 1, 2, 3, 4, 9, 10, 5, 6, 7] (by decide) rfl) hS (lv_sub hl [3, 4, 2, 1, 5, 6, 7, 8, 0] rfl)
      · replace ht := ht.2 c13
        refine lv_iconst (v := 1) hx hb dX4_count_47 (by decide) ?_
        refine lv_goto (tgt := 52) hx hb dX4_count_48 (by decide) ?_
        refine lv_iadd hx hb dX4_count_52 ?_
        refine lv_topi (fun y21 ey21 => ?_)
        replace ht := ht y21 ey21
        refine lv_istore_n (lv' := [(2, .int y21), (0, .ref h0), (1, .int p1), (3, .int x3), (4, .int x4), (5, .int x5), (6, .int x6), (7, .int x7)]) hx hb dX4_count_53 rfl hl (by decide) rfl (fun ls hl => ?_)
        refine lv_iload_n hx hb dX4_count_54 rfl (lv_at hl 3 rfl) ?_
        refine lv_aload_n hx hb dX4_count_55 rfl (lv_at hl 1 rfl) ?_
        refine va_get (D := (dC, dI)) (ci := 4) (v := .ref agnd) (C := RX4) (T := TX4) (N := 21) hx hb hts hw0 hown hK hP 0 rfl rfl 13 (by decide) hw4 (fun _ h9 => h9) rfl dX4_count_56 ?_
        refine lv_iload hx hb dX4_count_59 (lv_at hl 7 rfl) ?_
        refine va_iald hx hb hK hP 6 0 rfl rfl i12 dX4_count_61 ?_
        refine lv_iload hx hb dX4_count_62 (lv_at hl 7 rfl) ?_
        refine lv_icmp_ne (tgt := 82) hx hb dX4_count_64 (by decide) (fun c22 => ?_) (fun c22 => ?_)
        · replace ht := ht.1 c22
          refine lv_iconst (v := 0) hx hb dX4_count_82 (by decide) ?_
          refine lv_iadd hx hb dX4_count_83 ?_
          refine lv_topi (fun y23 ey23 => ?_)
          replace ht := ht y23 ey23
          refine lv_istore_n (lv' := [(3, .int y23), (2, .int y21), (0, .ref h0), (1, .int p1), (4, .int x4), (5, .int x5), (6, .int x6), (7, .int x7)]) hx hb dX4_count_84 rfl hl (by decide) rfl (fun ls hl => ?_)
          refine lv_iconst (v := 0) hx hb dX4_count_85 (by decide) ?_
          refine lv_istore (lv' := [(8, .int 0), (3, .int y23), (2, .int y21), (0, .ref h0), (1, .int p1), (4, .int x4), (5, .int x5), (6, .int x6), (7, .int x7)]) hx hb dX4_count_86 hl (by decide) rfl (fun ls hl => ?_)
          exact ht _ _ _ hP hD hS (lv_sub hl [3, 4, 2, 1, 5, 6, 7, 8, 0] rfl)
        · replace ht := ht.2 c22
          refine lv_aload_n hx hb dX4_count_67 rfl (lv_at hl 1 rfl) ?_
          refine lv_iload hx hb dX4_count_68 (lv_at hl 7 rfl) ?_
          have hPc := hP.sub (ws' := [(h0, .inr (4, [.int xth, .int xnv, .int xna, .ref agbi, .ref agab, .int xtl, .ref aghv, .ref agic, .ref agbe, .int xmk, .ref agmt, .ref agmv, .ref agma, .ref agnd, .ref agre, .ref agse, .ref aglv, .ref agal, .ref agds, .ref agno, .ref agna])), (agnd, .inl (cI, 60, .inl gnd)), (agre, .inl (cJ, 60, .inr (.inl gre)))]) [0, 6, 7] rfl
          have hDc := hD.sub (ws' := [(h0, .inr (4, [.int xth, .int xnv, .int xna, .ref agbi, .ref agab, .int xtl, .ref aghv, .ref agic, .ref agbe, .int xmk, .ref agmt, .ref agmv, .ref agma, .ref agnd, .ref agre, .ref agse, .ref aglv, .ref agal, .ref agds, .ref agno, .ref agna])), (agnd, .inl (cI, 60, .inl gnd)), (agre, .inl (cJ, 60, .inr (.inl gre)))]) [0, 6, 7] (by decide) rfl
          have hFc := va_free (wc := [(h0, .inr (4, [.int xth, .int xnv, .int xna, .ref agbi, .ref agab, .int xtl, .ref aghv, .ref agic, .ref agbe, .int xmk, .ref agmt, .ref agmv, .ref agma, .ref agnd, .ref agre, .ref agse, .ref aglv, .ref agal, .ref agds, .ref agno, .ref agna])), (agnd, .inl (cI, 60, .inl gnd)), (agre, .inl (cJ, 60, .inr (.inl gre)))]) hD hS hA [0, 6, 7] rfl
          refine va_calli (va_runV (As := [.int x7]) (rest := [.int x3]) ⟨hx, hb, hml, hown, hts⟩ (c_X4_ring l dC dI cI cJ h0 agbi agab aghv agic agbe agmt agmv agma agnd agre agse aglv agal agds agno agna xth xnv xna xtl xmk gnd gre H.size x7 _ ht) (cwV 1 hts gX4_count_X4_ring rfl rfl rfl (by decide +kernel) ⟨Nat.le_of_ble_eq_true rfl, Nat.le_of_ble_eq_true rfl⟩) ⟨fun a U g mk q => by obtain ⟨q0, q1, qP, qK, qD, qN⟩ := q; exact ⟨q0, q1, qP, va_K.moved (u := U) (U := U.calling g mk a) (Vm.Alike.refl U.vm) qK, qD, nw_same rfl qN⟩, va_recv hK hP (ci := 4) (q0 := 0) rfl rfl, fun U hU hW => ⟨rfl, by rw [hU], by rw [hU]; exact hPc, va_K.moved hW.alike hK, hDc.weaken (fun _ _ _ _ => trivial), nw_warm hW hN⟩⟩ rfl rfl hl.1 rfl (lv_room (Nat.le_of_ble_eq_true rfl)) dX4_count_70 ⟨Nat.le_of_ble_eq_true rfl, Nat.le_of_ble_eq_true rfl⟩) hS (fun q _ h => hFc q h) hFc (fun r24 u t H1 locs ht9 hvm hw hB hz1 hk1 hS => ?_)
          obtain ⟨hP1, hK1, hD1⟩ := hB
          rw [ht9] at hP1
          try dsimp only at hw
          replace ht := hw
          obtain ⟨hP, hD⟩ := va_join (wr := [(agbi, .inl (cI, 60, .inl gbi)), (agab, .inl (cI, 32, .inl gab)), (aghv, .inl (cI, 1920, .inl ghv)), (agic, .inl (cI, 3600, .inl gic)), (agbe, .inl (cI, 3600, .inl gbe)), (agse, .inl (cI, 60, .inl gse)), (aglv, .inl (cI, 60, .inl glv)), (agal, .inl (cI, 32, .inl gal))]) (w1 := [(h0, .inr (4, [.int xth, .int xnv, .int xna, .ref agbi, .ref agab, .int xtl, .ref aghv, .ref agic, .ref agbe, .int xmk, .ref agmt, .ref agmv, .ref agma, .ref agnd, .ref agre, .ref agse, .ref aglv, .ref agal, .ref agds, .ref agno, .ref agna])), (agnd, .inl (cI, 60, .inl gnd)), (agre, .inl (cJ, 60, .inr (.inl gre)))]) hP hD [0, 6, 7] [1, 2, 3, 4, 5, 8, 9, 10] rfl rfl (by decide) (by decide) hk1 hFc hP1 hD1
          generalize H1 = H at hP hS ⊢
          replace hP : va_P (dC, dI) vwCl [(agbi, .inl (cI, 60, .inl gbi)), (agab, .inl (cI, 32, .inl gab)), (aghv, .inl (cI, 1920, .inl ghv)), (agic, .inl (cI, 3600, .inl gic)), (agbe, .inl (cI, 3600, .inl gbe)), (agse, .inl (cI, 60, .inl gse)), (aglv, .inl (cI, 60, .inl glv)), (agal, .inl (cI, 32, .inl gal)), (h0, .inr (4, [.int xth, .int xnv, .int xna, .ref agbi, .ref agab, .int xtl, .ref aghv, .ref agic, .ref agbe, .int xmk, .ref agmt, .ref agmv, .ref agma, .ref agnd, .ref agre, .ref agse, .ref aglv, .ref agal, .ref agds, .ref agno, .ref agna])), (agnd, .inl (cI, 60, .inl gnd)), (agre, .inl (cJ, 60, .inr (.inl gre)))] H := hP
          replace hD : va_D A [(agbi, .inl (cI, 60, .inl gbi)), (agab, .inl (cI, 32, .inl gab)), (aghv, .inl (cI, 1920, .inl ghv)), (agic, .inl (cI, 3600, .inl gic)), (agbe, .inl (cI, 3600, .inl gbe)), (agse, .inl (cI, 60, .inl gse)), (aglv, .inl (cI, 60, .inl glv)), (agal, .inl (cI, 32, .inl gal)), (h0, .inr (4, [.int xth, .int xnv, .int xna, .ref agbi, .ref agab, .int xtl, .ref aghv, .ref agic, .ref agbe, .int xmk, .ref agmt, .ref agmv, .ref agma, .ref agnd, .ref agre, .ref agse, .ref aglv, .ref agal, .ref agds, .ref agno, .ref agna])), (agnd, .inl (cI, 60, .inl gnd)), (agre, .inl (cJ, 60, .inr (.inl gre)))] := hD
          refine lv_iload hx hb dX4_count_73 (lv_at hl 7 rfl) ?_
          refine lv_icmp_ne (tgt := 82) hx hb dX4_count_75 (by decide) (fun c25 => ?_) (fun c25 => ?_)
          · replace ht := ht.1 c25
            refine lv_iconst (v := 0) hx hb dX4_count_82 (by decide) ?_
            refine lv_iadd hx hb dX4_count_83 ?_
            refine lv_topi (fun y26 ey26 => ?_)
            replace ht := ht y26 ey26
            refine lv_istore_n (lv' := [(3, .int y26), (2, .int y21), (0, .ref h0), (1, .int p1), (4, .int x4), (5, .int x5), (6, .int x6), (7, .int x7)]) hx hb dX4_count_84 rfl hl (by decide) rfl (fun ls hl => ?_)
            refine lv_iconst (v := 0) hx hb dX4_count_85 (by decide) ?_
            refine lv_istore (lv' := [(8, .int 0), (3, .int y26), (2, .int y21), (0, .ref h0), (1, .int p1), (4, .int x4), (5, .int x5), (6, .int x6), (7, .int x7)]) hx hb dX4_count_86 hl (by decide) rfl (fun ls hl => ?_)
            exact ht _ _ _ (hP.sub [8, 0, 1, 2, 3, 4, 9, 10, 5, 6, 7] rfl) (hD.sub [8, 0, 1, 2, 3, 4, 9, 10, 5, 6, 7] (by decide) rfl) hS (lv_sub hl [3, 4, 2, 1, 5, 6, 7, 8, 0] rfl)
          · replace ht := ht.2 c25
            refine lv_iconst (v := 1) hx hb dX4_count_78 (by decide) ?_
            refine lv_goto (tgt := 83) hx hb dX4_count_79 (by decide) ?_
            refine lv_iadd hx hb dX4_count_83 ?_
            refine lv_topi (fun y27 ey27 => ?_)
            replace ht := ht y27 ey27
            refine lv_istore_n (lv' := [(3, .int y27), (2, .int y21), (0, .ref h0), (1, .int p1), (4, .int x4), (5, .int x5), (6, .int x6), (7, .int x7)]) hx hb dX4_count_84 rfl hl (by decide) rfl (fun ls hl => ?_)
            refine lv_iconst (v := 0) hx hb dX4_count_85 (by decide) ?_
            refine lv_istore (lv' := [(8, .int 0), (3, .int y27), (2, .int y21), (0, .ref h0), (1, .int p1), (4, .int x4), (5, .int x5), (6, .int x6), (7, .int x7)]) hx hb dX4_count_86 hl (by decide) rfl (fun ls hl => ?_)
            exact ht _ _ _ (hP.sub [8, 0, 1, 2, 3, 4, 9, 10, 5, 6, 7] rfl) (hD.sub [8, 0, 1, 2, 3, 4, 9, 10, 5, 6, 7] (by decide) rfl) hS (lv_sub hl [3, 4, 2, 1, 5, 6, 7, 8, 0] rfl)
  · intro x2 x3 x4 x5 x6 x7 x8 xth gnd gre gse glv gal ht H locs ls hP hD hS hl
    refine lv_iload hx hb dX4_count_88 (lv_at hl 8 rfl) ?_
    refine lv_aload_n hx hb dX4_count_90 rfl (lv_at hl 0 rfl) ?_
    refine va_get (D := (dC, dI)) (ci := 4) (v := .int xna) (C := RX4) (T := TX4) (N := 21) hx hb hts hw0 hown hK hP 0 rfl rfl 2 (by decide) hw2 (fun _ h9 => h9) rfl dX4_count_91 ?_
    refine lv_icmp_ge (tgt := 129) hx hb dX4_count_94 (by decide) (fun c28 => ?_) (fun c28 => ?_)
    · replace ht := ht.1 c28
      refine lv_iconst (v := 0) hx hb dX4_count_129 (by decide) ?_
      refine lv_istore (lv' := [(8, .int 0), (0, .ref h0), (1, .int p1), (2, .int x2), (3, .int x3), (4, .int x4), (5, .int x5), (6, .int x6), (7, .int x7)]) hx hb dX4_count_130 hl (by decide) rfl (fun ls hl => ?_)
      exact ht _ _ _ hP hD hS (lv_sub hl [1, 2, 3, 4, 5, 6, 7, 8, 0] rfl)
    · replace ht := ht.2 c28
      refine lv_iload hx hb dX4_count_97 (lv_at hl 4 rfl) ?_
      refine lv_aload_n hx hb dX4_count_99 rfl (lv_at hl 0 rfl) ?_
      refine va_get (D := (dC, dI)) (ci := 4) (v := .ref aghv) (C := RX4) (T := TX4) (N := 21) hx hb hts hw0 hown hK hP 0 rfl rfl 6 (by decide) hw5 (fun _ h9 => h9) rfl dX4_count_100 ?_
      refine lv_bipush (v := 32) hx hb dX4_count_103 (by decide) ?_
      refine lv_iload hx hb dX4_count_105 (lv_at hl 7 rfl) ?_
      refine lv_imul hx hb dX4_count_107 ?_
      refine lv_iload hx hb dX4_count_108 (lv_at hl 8 rfl) ?_
      refine lv_iadd hx hb dX4_count_110 ?_
      obtain ⟨i29, ht⟩ := ht
      refine va_iald hx hb hK hP 3 0 rfl rfl i29 dX4_count_111 ?_
      refine lv_if_le (tgt := 119) hx hb dX4_count_112 (by decide) (fun c30 => ?_) (fun c30 => ?_)
      · replace ht := ht.1 c30
        refine lv_iconst (v := 0) hx hb dX4_count_119 (by decide) ?_
        refine lv_iadd hx hb dX4_count_120 ?_
        refine lv_topi (fun y31 ey31 => ?_)
        replace ht := ht y31 ey31
        refine lv_istore (lv' := [(4, .int y31), (0, .ref h0), (1, .int p1), (2, .int x2), (3, .int x3), (5, .int x5), (6, .int x6), (7, .int x7), (8, .int x8)]) hx hb dX4_count_121 hl (by decide) rfl (fun ls hl => ?_)
        obtain ⟨y32, ey32⟩ : ∃ y : Int32, y = x8 + 1 := ⟨_, rfl⟩
        replace ht := ht y32 ey32
        refine lv_iinc (v := y32) (lv' := [(8, .int y32), (4, .int y31), (0, .ref h0), (1, .int p1), (2, .int x2), (3, .int x3), (5, .int x5), (6, .int x6), (7, .int x7)]) hx hb dX4_count_123 hl (k := 8) rfl (by rw [ey32]; rfl) (by decide) rfl (fun ls hl => ?_)
        refine lv_goto (tgt := 88) hx hb dX4_count_126 (by decide) ?_
        exact ht _ _ _ hP hD hS (lv_sub hl [2, 3, 4, 5, 1, 6, 7, 8, 0] rfl)
      · replace ht := ht.2 c30
        refine lv_iconst (v := 1) hx hb dX4_count_115 (by decide) ?_
        refine lv_goto (tgt := 120) hx hb dX4_count_116 (by decide) ?_
        refine lv_iadd hx hb dX4_count_120 ?_
        refine lv_topi (fun y33 ey33 => ?_)
        replace ht := ht y33 ey33
        refine lv_istore (lv' := [(4, .int y33), (0, .ref h0), (1, .int p1), (2, .int x2), (3, .int x3), (5, .int x5), (6, .int x6), (7, .int x7), (8, .int x8)]) hx hb dX4_count_121 hl (by decide) rfl (fun ls hl => ?_)
        obtain ⟨y34, ey34⟩ : ∃ y : Int32, y = x8 + 1 := ⟨_, rfl⟩
        replace ht := ht y34 ey34
        refine lv_iinc (v := y34) (lv' := [(8, .int y34), (4, .int y33), (0, .ref h0), (1, .int p1), (2, .int x2), (3, .int x3), (5, .int x5), (6, .int x6), (7, .int x7)]) hx hb dX4_count_123 hl (k := 8) rfl (by rw [ey34]; rfl) (by decide) rfl (fun ls hl => ?_)
        refine lv_goto (tgt := 88) hx hb dX4_count_126 (by decide) ?_
        exact ht _ _ _ hP hD hS (lv_sub hl [2, 3, 4, 5, 1, 6, 7, 8, 0] rfl)
  · intro x2 x3 x4 x5 x6 x7 x8 xth gnd gre gse glv gal ht H locs ls hP hD hS hl
    refine lv_iload hx hb dX4_count_132 (lv_at hl 8 rfl) ?_
    refine lv_aload_n hx hb dX4_count_134 rfl (lv_at hl 0 rfl) ?_
    refine va_get (D := (dC, dI)) (ci := 4) (v := .int xnv) (C := RX4) (T := TX4) (N := 21) hx hb hts hw0 hown hK hP 0 rfl rfl 1 (by decide) hw1 (fun _ h9 => h9) rfl dX4_count_135 ?_
    refine lv_icmp_ge (tgt := 206) hx hb dX4_count_138 (by decide) (fun c35 => ?_) (fun c35 => ?_)
    · replace ht := ht.1 c35
      obtain ⟨y36, ey36⟩ : ∃ y : Int32, y = x7 + 1 := ⟨_, rfl⟩
      replace ht := ht y36 ey36
      refine lv_iinc (v := y36) (lv' := [(7, .int y36), (0, .ref h0), (1, .int p1), (2, .int x2), (3, .int x3), (4, .int x4), (5, .int x5), (6, .int x6), (8, .int x8)]) hx hb dX4_count_206 hl (k := 7) rfl (by rw [ey36]; rfl) (by decide) rfl (fun ls hl => ?_)
      refine lv_goto (tgt := 25) hx hb dX4_count_209 (by decide) ?_
      exact ht _ _ _ hP hD hS (lv_sub hl [1, 2, 3, 4, 5, 6, 7, 0] rfl)
    · replace ht := ht.2 c35
      refine lv_iload hx hb dX4_count_141 (lv_at hl 5 rfl) ?_
      refine lv_aload_n hx hb dX4_count_143 rfl (lv_at hl 0 rfl) ?_
      refine va_get (D := (dC, dI)) (ci := 4) (v := .ref agic) (C := RX4) (T := TX4) (N := 21) hx hb hts hw0 hown hK hP 0 rfl rfl 7 (by decide) hw6 (fun _ h9 => h9) rfl dX4_count_144 ?_
      refine lv_bipush (v := 60) hx hb dX4_count_147 (by decide) ?_
      refine lv_iload hx hb dX4_count_149 (lv_at hl 7 rfl) ?_
      refine lv_imul hx hb dX4_count_151 ?_
      refine lv_iload hx hb dX4_count_152 (lv_at hl 8 rfl) ?_
      refine lv_iadd hx hb dX4_count_154 ?_
      obtain ⟨i37, ht⟩ := ht
      refine va_iald hx hb hK hP 4 0 rfl rfl i37 dX4_count_155 ?_
      refine lv_if_le (tgt := 163) hx hb dX4_count_156 (by decide) (fun c38 => ?_) (fun c38 => ?_)
      · replace ht := ht.1 c38
        refine lv_iconst (v := 0) hx hb dX4_count_163 (by decide) ?_
        refine lv_iadd hx hb dX4_count_164 ?_
        refine lv_topi (fun y39 ey39 => ?_)
        replace ht := ht y39 ey39
        refine lv_istore (lv' := [(5, .int y39), (0, .ref h0), (1, .int p1), (2, .int x2), (3, .int x3), (4, .int x4), (6, .int x6), (7, .int x7), (8, .int x8)]) hx hb dX4_count_165 hl (by decide) rfl (fun ls hl => ?_)
        refine lv_iload hx hb dX4_count_167 (lv_at hl 6 rfl) ?_
        refine lv_iload hx hb dX4_count_169 (lv_at hl 7 rfl) ?_
        refine lv_iload hx hb dX4_count_171 (lv_at hl 8 rfl) ?_
        refine lv_icmp_ge (tgt := 196) hx hb dX4_count_173 (by decide) (fun c40 => ?_) (fun c40 => ?_)
        · replace ht := ht.1 c40
          refine lv_iconst (v := 0) hx hb dX4_count_196 (by decide) ?_
          refine lv_iadd hx hb dX4_count_197 ?_
          refine lv_topi (fun y41 ey41 => ?_)
          replace ht := ht y41 ey41
          refine lv_istore (lv' := [(6, .int y41), (5, .int y39), (0, .ref h0), (1, .int p1), (2, .int x2), (3, .int x3), (4, .int x4), (7, .int x7), (8, .int x8)]) hx hb dX4_count_198 hl (by decide) rfl (fun ls hl => ?_)
          obtain ⟨y42, ey42⟩ : ∃ y : Int32, y = x8 + 1 := ⟨_, rfl⟩
          replace ht := ht y42 ey42
          refine lv_iinc (v := y42) (lv' := [(8, .int y42), (6, .int y41), (5, .int y39), (0, .ref h0), (1, .int p1), (2, .int x2), (3, .int x3), (4, .int x4), (7, .int x7)]) hx hb dX4_count_200 hl (k := 8) rfl (by rw [ey42]; rfl) (by decide) rfl (fun ls hl => ?_)
          refine lv_goto (tgt := 132) hx hb dX4_count_203 (by decide) ?_
          exact ht _ _ _ hP hD hS (lv_sub hl [3, 4, 5, 6, 7, 2, 1, 8, 0] rfl)
        · replace ht := ht.2 c40
          refine lv_aload_n hx hb dX4_count_176 rfl (lv_at hl 1 rfl) ?_
          refine va_get (D := (dC, dI)) (ci := 4) (v := .ref agbe) (C := RX4) (T := TX4) (N := 21) hx hb hts hw0 hown hK hP 0 rfl rfl 8 (by decide) hw7 (fun _ h9 => h9) rfl dX4_count_177 ?_
          refine lv_bipush (v := 60) hx hb dX4_count_180 (by decide) ?_
          refine lv_iload hx hb dX4_count_182 (lv_at hl 7 rfl) ?_
          refine lv_imul hx hb dX4_count_184 ?_
          refine lv_iload hx hb dX4_count_185 (lv_at hl 8 rfl) ?_
          refine lv_iadd hx hb dX4_count_187 ?_
          refine va_iald hx hb hK hP 5 0 rfl rfl i37 dX4_count_188 ?_
          refine lv_if_le (tgt := 196) hx hb dX4_count_189 (by decide) (fun c43 => ?_) (fun c43 => ?_)
          · replace ht := ht.1 c43
            refine lv_iconst (v := 0) hx hb dX4_count_196 (by decide) ?_
            refine lv_iadd hx hb dX4_count_197 ?_
            refine lv_topi (fun y44 ey44 => ?_)
            replace ht := ht y44 ey44
            refine lv_istore (lv' := [(6, .int y44), (5, .int y39), (0, .ref h0), (1, .int p1), (2, .int x2), (3, .int x3), (4, .int x4), (7, .int x7), (8, .int x8)]) hx hb dX4_count_198 hl (by decide) rfl (fun ls hl => ?_)
            obtain ⟨y45, ey45⟩ : ∃ y : Int32, y = x8 + 1 := ⟨_, rfl⟩
            replace ht := ht y45 ey45
            refine lv_iinc (v := y45) (lv' := [(8, .int y45), (6, .int y44), (5, .int y39), (0, .ref h0), (1, .int p1), (2, .int x2), (3, .int x3), (4, .int x4), (7, .int x7)]) hx hb dX4_count_200 hl (k := 8) rfl (by rw [ey45]; rfl) (by decide) rfl (fun ls hl => ?_)
            refine lv_goto (tgt := 132) hx hb dX4_count_203 (by decide) ?_
            exact ht _ _ _ hP hD hS (lv_sub hl [3, 4, 5, 6, 7, 2, 1, 8, 0] rfl)
          · replace ht := ht.2 c43
            refine lv_iconst (v := 1) hx hb dX4_count_192 (by decide) ?_
            refine lv_goto (tgt := 197) hx hb dX4_count_193 (by decide) ?_
            refine lv_iadd hx hb dX4_count_197 ?_
            refine lv_topi (fun y46 ey46 => ?_)
            replace ht := ht y46 ey46
            refine lv_istore (lv' := [(6, .int y46), (5, .int y39), (0, .ref h0), (1, .int p1), (2, .int x2), (3, .int x3), (4, .int x4), (7, .int x7), (8, .int x8)]) hx hb dX4_count_198 hl (by decide) rfl (fun ls hl => ?_)
            obtain ⟨y47, ey47⟩ : ∃ y : Int32, y = x8 + 1 := ⟨_, rfl⟩
            replace ht := ht y47 ey47
            refine lv_iinc (v := y47) (lv' := [(8, .int y47), (6, .int y46), (5, .int y39), (0, .ref h0), (1, .int p1), (2, .int x2), (3, .int x3), (4, .int x4), (7, .int x7)]) hx hb dX4_count_200 hl (k := 8) rfl (by rw [ey47]; rfl) (by decide) rfl (fun ls hl => ?_)
            refine lv_goto (tgt := 132) hx hb dX4_count_203 (by decide) ?_
            exact ht _ _ _ hP hD hS (lv_sub hl [3, 4, 5, 6, 7, 2, 1, 8, 0] rfl)
      · replace ht := ht.2 c38
        refine lv_iconst (v := 1) hx hb dX4_count_159 (by decide) ?_
        refine lv_goto (tgt := 164) hx hb dX4_count_160 (by decide) ?_
        refine lv_iadd hx hb dX4_count_164 ?_
        refine lv_topi (fun y48 ey48 => ?_)
        replace ht := ht y48 ey48
        refine lv_istore (lv' := [(5, .int y48), (0, .ref h0), (1, .int p1), (2, .int x2), (3, .int x3), (4, .int x4), (6, .int x6), (7, .int x7), (8, .int x8)]) hx hb dX4_count_165 hl (by decide) rfl (fun ls hl => ?_)
        refine lv_iload hx hb dX4_count_167 (lv_at hl 6 rfl) ?_
        refine lv_iload hx hb dX4_count_169 (lv_at hl 7 rfl) ?_
        refine lv_iload hx hb dX4_count_171 (lv_at hl 8 rfl) ?_
        refine lv_icmp_ge (tgt := 196) hx hb dX4_count_173 (by decide) (fun c49 => ?_) (fun c49 => ?_)
        · replace ht := ht.1 c49
          refine lv_iconst (v := 0) hx hb dX4_count_196 (by decide) ?_
          refine lv_iadd hx hb dX4_count_197 ?_
          refine lv_topi (fun y50 ey50 => ?_)
          replace ht := ht y50 ey50
          refine lv_istore (lv' := [(6, .int y50), (5, .int y48), (0, .ref h0), (1, .int p1), (2, .int x2), (3, .int x3), (4, .int x4), (7, .int x7), (8, .int x8)]) hx hb dX4_count_198 hl (by decide) rfl (fun ls hl => ?_)
          obtain ⟨y51, ey51⟩ : ∃ y : Int32, y = x8 + 1 := ⟨_, rfl⟩
          replace ht := ht y51 ey51
          refine lv_iinc (v := y51) (lv' := [(8, .int y51), (6, .int y50), (5, .int y48), (0, .ref h0), (1, .int p1), (2, .int x2), (3, .int x3), (4, .int x4), (7, .int x7)]) hx hb dX4_count_200 hl (k := 8) rfl (by rw [ey51]; rfl) (by decide) rfl (fun ls hl => ?_)
          refine lv_goto (tgt := 132) hx hb dX4_count_203 (by decide) ?_
          exact ht _ _ _ hP hD hS (lv_sub hl [3, 4, 5, 6, 7, 2, 1, 8, 0] rfl)
        · replace ht := ht.2 c49
          refine lv_aload_n hx hb dX4_count_176 rfl (lv_at hl 1 rfl) ?_
          refine va_get (D := (dC, dI)) (ci := 4) (v := .ref agbe) (C := RX4) (T := TX4) (N := 21) hx hb hts hw0 hown hK hP 0 rfl rfl 8 (by decide) hw7 (fun _ h9 => h9) rfl dX4_count_177 ?_
          refine lv_bipush (v := 60) hx hb dX4_count_180 (by decide) ?_
          refine lv_iload hx hb dX4_count_182 (lv_at hl 7 rfl) ?_
          refine lv_imul hx hb dX4_count_184 ?_
          refine lv_iload hx hb dX4_count_185 (lv_at hl 8 rfl) ?_
          refine lv_iadd hx hb dX4_count_187 ?_
          refine va_iald hx hb hK hP 5 0 rfl rfl i37 dX4_count_188 ?_
          refine lv_if_le (tgt := 196) hx hb dX4_count_189 (by decide) (fun c52 => ?_) (fun c52 => ?_)
          · replace ht := ht.1 c52
            refine lv_iconst (v := 0) hx hb dX4_count_196 (by decide) ?_
            refine lv_iadd hx hb dX4_count_197 ?_
            refine lv_topi (fun y53 ey53 => ?_)
            replace ht := ht y53 ey53
            refine lv_istore (lv' := [(6, .int y53), (5, .int y48), (0, .ref h0), (1, .int p1), (2, .int x2), (3, .int x3), (4, .int x4), (7, .int x7), (8, .int x8)]) hx hb dX4_count_198 hl (by decide) rfl (fun ls hl => ?_)
            obtain ⟨y54, ey54⟩ : ∃ y : Int32, y = x8 + 1 := ⟨_, rfl⟩
            replace ht := ht y54 ey54
            refine lv_iinc (v := y54) (lv' := [(8, .int y54), (6, .int y53), (5, .int y48), (0, .ref h0), (1, .int p1), (2, .int x2), (3, .int x3), (4, .int x4), (7, .int x7)]) hx hb dX4_count_200 hl (k := 8) rfl (by rw [ey54]; rfl) (by decide) rfl (fun ls hl => ?_)
            refine lv_goto (tgt := 132) hx hb dX4_count_203 (by decide) ?_
            exact ht _ _ _ hP hD hS (lv_sub hl [3, 4, 5, 6, 7, 2, 1, 8, 0] rfl)
          · replace ht := ht.2 c52
            refine lv_iconst (v := 1) hx hb dX4_count_192 (by decide) ?_
            refine lv_goto (tgt := 197) hx hb dX4_count_193 (by decide) ?_
            refine lv_iadd hx hb dX4_count_197 ?_
            refine lv_topi (fun y55 ey55 => ?_)
            replace ht := ht y55 ey55
            refine lv_istore (lv' := [(6, .int y55), (5, .int y48), (0, .ref h0), (1, .int p1), (2, .int x2), (3, .int x3), (4, .int x4), (7, .int x7), (8, .int x8)]) hx hb dX4_count_198 hl (by decide) rfl (fun ls hl => ?_)
            obtain ⟨y56, ey56⟩ : ∃ y : Int32, y = x8 + 1 := ⟨_, rfl⟩
            replace ht := ht y56 ey56
            refine lv_iinc (v := y56) (lv' := [(8, .int y56), (6, .int y55), (5, .int y48), (0, .ref h0), (1, .int p1), (2, .int x2), (3, .int x3), (4, .int x4), (7, .int x7)]) hx hb dX4_count_200 hl (k := 8) rfl (by rw [ey56]; rfl) (by decide) rfl (fun ls hl => ?_)
            refine lv_goto (tgt := 132) hx hb dX4_count_203 (by decide) ?_
            exact ht _ _ _ hP hD hS (lv_sub hl [3, 4, 5, 6, 7, 2, 1, 8, 0] rfl)
  · intro ht
    refine lv_aload_n hx hb dX4_count_0 rfl (lv_at hl 0 rfl) ?_
    refine lv_iconst (v := 0) hx hb dX4_count_1 (by decide) ?_
    refine va_put (D := (dC, dI)) (ci := 4) (v := .int 0) (ty := .int) (C := RX4) (T := TX4) (N := 21) hx hb hts hw0 tyX4 tyX4_ok nmX4 hown hK hP hD hS 0 rfl rfl 0 (by decide) hw8 (fun _ h9 => h9) rfl (by decide +kernel) rfl rfl (Nat.le_of_ble_eq_true rfl) dX4_count_2 (fun H locs hP hD hS => ?_)
    replace hP : va_P (dC, dI) vwCl [(h0, .inr (4, [.int 0, .int xnv, .int xna, .ref agbi, .ref agab, .int xtl, .ref aghv, .ref agic, .ref agbe, .int xmk, .ref agmt, .ref agmv, .ref agma, .ref agnd, .ref agre, .ref agse, .ref aglv, .ref agal, .ref agds, .ref agno, .ref agna])), (agbi, .inl (cI, 60, .inl gbi)), (agab, .inl (cI, 32, .inl gab)), (aghv, .inl (cI, 1920, .inl ghv)), (agic, .inl (cI, 3600, .inl gic)), (agbe, .inl (cI, 3600, .inl gbe)), (agnd, .inl (cI, 60, .inl gnd)), (agre, .inl (cJ, 60, .inr (.inl gre))), (agse, .inl (cI, 60, .inl gse)), (aglv, .inl (cI, 60, .inl glv)), (agal, .inl (cI, 32, .inl gal))] H := hP
    replace hD : va_D A [(h0, .inr (4, [.int 0, .int xnv, .int xna, .ref agbi, .ref agab, .int xtl, .ref aghv, .ref agic, .ref agbe, .int xmk, .ref agmt, .ref agmv, .ref agma, .ref agnd, .ref agre, .ref agse, .ref aglv, .ref agal, .ref agds, .ref agno, .ref agna])), (agbi, .inl (cI, 60, .inl gbi)), (agab, .inl (cI, 32, .inl gab)), (aghv, .inl (cI, 1920, .inl ghv)), (agic, .inl (cI, 3600, .inl gic)), (agbe, .inl (cI, 3600, .inl gbe)), (agnd, .inl (cI, 60, .inl gnd)), (agre, .inl (cJ, 60, .inr (.inl gre))), (agse, .inl (cI, 60, .inl gse)), (aglv, .inl (cI, 60, .inl glv)), (agal, .inl (cI, 32, .inl gal))] := hD
    refine lv_aload_n hx hb dX4_count_5 rfl (lv_at hl 0 rfl) ?_
    have hPc := hP.sub (ws' := [(h0, .inr (4, [.int 0, .int xnv, .int xna, .ref agbi, .ref agab, .int xtl, .ref aghv, .ref agic, .ref agbe, .int xmk, .ref agmt, .ref agmv, .ref agma, .ref agnd, .ref agre, .ref agse, .ref aglv, .ref agal, .ref agds, .ref agno, .ref agna])), (agbi, .inl (cI, 60, .inl gbi)), (agab, .inl (cI, 32, .inl gab)), (aghv, .inl (cI, 1920, .inl ghv)), (agic, .inl (cI, 3600, .inl gic)), (agbe, .inl (cI, 3600, .inl gbe)), (agnd, .inl (cI, 60, .inl gnd)), (agre, .inl (cJ, 60, .inr (.inl gre))), (agse, .inl (cI, 60, .inl gse)), (aglv, .inl (cI, 60, .inl glv)), (agal, .inl (cI, 32, .inl gal))]) [0, 1, 2, 3, 4, 5, 6, 7, 8, 9, 10] rfl
    have hDc := hD.sub (ws' := [(h0, .inr (4, [.int 0, .int xnv, .int xna, .ref agbi, .ref agab, .int xtl, .ref aghv, .ref agic, .ref agbe, .int xmk, .ref agmt, .ref agmv, .ref agma, .ref agnd, .ref agre, .ref agse, .ref aglv, .ref agal, .ref agds, .ref agno, .ref agna])), (agbi, .inl (cI, 60, .inl gbi)), (agab, .inl (cI, 32, .inl gab)), (aghv, .inl (cI, 1920, .inl ghv)), (agic, .inl (cI, 3600, .inl gic)), (agbe, .inl (cI, 3600, .inl gbe)), (agnd, .inl (cI, 60, .inl gnd)), (agre, .inl (cJ, 60, .inr (.inl gre))), (agse, .inl (cI, 60, .inl gse)), (aglv, .inl (cI, 60, .inl glv)), (agal, .inl (cI, 32, .inl gal))]) [0, 1, 2, 3, 4, 5, 6, 7, 8, 9, 10] (by decide) rfl
    have hFc := va_free (wc := [(h0, .inr (4, [.int 0, .int xnv, .int xna, .ref agbi, .ref agab, .int xtl, .ref aghv, .ref agic, .ref agbe, .int xmk, .ref agmt, .ref agmv, .ref agma, .ref agnd, .ref agre, .ref agse, .ref aglv, .ref agal, .ref agds, .ref agno, .ref agna])), (agbi, .inl (cI, 60, .inl gbi)), (agab, .inl (cI, 32, .inl gab)), (aghv, .inl (cI, 1920, .inl ghv)), (agic, .inl (cI, 3600, .inl gic)), (agbe, .inl (cI, 3600, .inl gbe)), (agnd, .inl (cI, 60, .inl gnd)), (agre, .inl (cJ, 60, .inr (.inl gre))), (agse, .inl (cI, 60, .inl gse)), (aglv, .inl (cI, 60, .inl glv)), (agal, .inl (cI, 32, .inl gal))]) hD hS hA [0, 1, 2, 3, 4, 5, 6, 7, 8, 9, 10] rfl
    refine va_callv (va_runV (As := []) (rest := []) ⟨hx, hb, hml, hown, hts⟩ (c_X4_workOut l dC dI cI cJ h0 agbi agab aghv agic agbe agmt agmv agma agnd agre agse aglv agal agds agno agna 0 xnv xna xtl xmk gbi gab ghv gic gbe gnd gre gse glv gal H.size _ ht) (cwV 0 hts gX4_count_X4_workOut rfl rfl rfl (by decide +kernel) ⟨Nat.le_of_ble_eq_true rfl, Nat.le_of_ble_eq_true rfl⟩) ⟨fun a U g mk q => by obtain ⟨q0, q1, qP, qK, qD, qN⟩ := q; exact ⟨q0, q1, qP, va_K.moved (u := U) (U := U.calling g mk a) (Vm.Alike.refl U.vm) qK, qD, nw_same rfl qN⟩, va_recv hK hP (ci := 4) (q0 := 0) rfl rfl, fun U hU hW => ⟨rfl, by rw [hU], by rw [hU]; exact hPc, va_K.moved hW.alike hK, hDc.weaken (fun _ _ _ _ => trivial), nw_warm hW hN⟩⟩ rfl rfl hl.1 rfl (lv_room (Nat.le_of_ble_eq_true rfl)) dX4_count_6 ⟨Nat.le_of_ble_eq_true rfl, Nat.le_of_ble_eq_true rfl⟩) hS (fun q _ h => hFc q h) hFc (fun u t H1 locs ht9 hvm hw hB hz1 hk1 hS => ?_)
    obtain ⟨gnd_58, gre_59, gse_60, glv_61, gal_62⟩ := u
    obtain ⟨hP1, hK1, hD1⟩ := hB
    rw [ht9] at hP1
    try dsimp only at hw
    replace ht := hw
    obtain ⟨hP, hD⟩ := va_join (wr := []) (w1 := [(h0, .inr (4, [.int 0, .int xnv, .int xna, .ref agbi, .ref agab, .int xtl, .ref aghv, .ref agic, .ref agbe, .int xmk, .ref agmt, .ref agmv, .ref agma, .ref agnd, .ref agre, .ref agse, .ref aglv, .ref agal, .ref agds, .ref agno, .ref agna])), (agbi, .inl (cI, 60, .inl gbi)), (agab, .inl (cI, 32, .inl gab)), (aghv, .inl (cI, 1920, .inl ghv)), (agic, .inl (cI, 3600, .inl gic)), (agbe, .inl (cI, 3600, .inl gbe)), (agnd, .inl (cI, 60, .inl gnd_58)), (agre, .inl (cJ, 60, .inr (.inl gre_59))), (agse, .inl (cI, 60, .inl gse_60)), (aglv, .inl (cI, 60, .inl glv_61)), (agal, .inl (cI, 32, .inl gal_62))]) hP hD [0, 1, 2, 3, 4, 5, 6, 7, 8, 9, 10] [] rfl rfl (by decide) (by decide) hk1 hFc hP1 hD1
    generalize H1 = H at hP hS ⊢
    replace hP : va_P (dC, dI) vwCl [(h0, .inr (4, [.int 0, .int xnv, .int xna, .ref agbi, .ref agab, .int xtl, .ref aghv, .ref agic, .ref agbe, .int xmk, .ref agmt, .ref agmv, .ref agma, .ref agnd, .ref agre, .ref agse, .ref aglv, .ref agal, .ref agds, .ref agno, .ref agna])), (agbi, .inl (cI, 60, .inl gbi)), (agab, .inl (cI, 32, .inl gab)), (aghv, .inl (cI, 1920, .inl ghv)), (agic, .inl (cI, 3600, .inl gic)), (agbe, .inl (cI, 3600, .inl gbe)), (agnd, .inl (cI, 60, .inl gnd_58)), (agre, .inl (cJ, 60, .inr (.inl gre_59))), (agse, .inl (cI, 60, .inl gse_60)), (aglv, .inl (cI, 60, .inl glv_61)), (agal, .inl (cI, 32, .inl gal_62))] H := hP
    replace hD : va_D A [(h0, .inr (4, [.int 0, .int xnv, .int xna, .ref agbi, .ref agab, .int xtl, .ref aghv, .ref agic, .ref agbe, .int xmk, .ref agmt, .ref agmv, .ref agma, .ref agnd, .ref agre, .ref agse, .ref aglv, .ref agal, .ref agds, .ref agno, .ref agna])), (agbi, .inl (cI, 60, .inl gbi)), (agab, .inl (cI, 32, .inl gab)), (aghv, .inl (cI, 1920, .inl ghv)), (agic, .inl (cI, 3600, .inl gic)), (agbe, .inl (cI, 3600, .inl gbe)), (agnd, .inl (cI, 60, .inl gnd_58)), (agre, .inl (cJ, 60, .inr (.inl gre_59))), (agse, .inl (cI, 60, .inl gse_60)), (aglv, .inl (cI, 60, .inl glv_61)), (agal, .inl (cI, 32, .inl gal_62))] := hD
    refine lv_iconst (v := 0) hx hb dX4_count_9 (by decide) ?_
    refine lv_istore_n (lv' := [(2, .int 0), (0, .ref h0), (1, .int p1)]) hx hb dX4_count_10 rfl hl (by decide) rfl (fun ls hl => ?_)
    refine lv_iconst (v := 0) hx hb dX4_count_11 (by decide) ?_
    refine lv_istore_n (lv' := [(3, .int 0), (2, .int 0), (0, .ref h0), (1, .int p1)]) hx hb dX4_count_12 rfl hl (by decide) rfl (fun ls hl => ?_)
    refine lv_iconst (v := 0) hx hb dX4_count_13 (by decide) ?_
    refine lv_istore (lv' := [(4, .int 0), (3, .int 0), (2, .int 0), (0, .ref h0), (1, .int p1)]) hx hb dX4_count_14 hl (by decide) rfl (fun ls hl => ?_)
    refine lv_iconst (v := 0) hx hb dX4_count_16 (by decide) ?_
    refine lv_istore (lv' := [(5, .int 0), (4, .int 0), (3, .int 0), (2, .int 0), (0, .ref h0), (1, .int p1)]) hx hb dX4_count_17 hl (by decide) rfl (fun ls hl => ?_)
    refine lv_iconst (v := 0) hx hb dX4_count_19 (by decide) ?_
    refine lv_istore (lv' := [(6, .int 0), (5, .int 0), (4, .int 0), (3, .int 0), (2, .int 0), (0, .ref h0), (1, .int p1)]) hx hb dX4_count_20 hl (by decide) rfl (fun ls hl => ?_)
    refine lv_iconst (v := 0) hx hb dX4_count_22 (by decide) ?_
    refine lv_istore (lv' := [(7, .int 0), (6, .int 0), (5, .int 0), (4, .int 0), (3, .int 0), (2, .int 0), (0, .ref h0), (1, .int p1)]) hx hb dX4_count_23 hl (by decide) rfl (fun ls hl => ?_)
    exact ht _ _ _ hP hD hS (lv_sub hl [6, 7, 5, 4, 3, 2, 1, 0] rfl)

theorem fs_X4 : ∀ j, j < 21 → defaultValue (tyX4 j) = vp_V [.int 0, .int 0, .int 0, .null, .null, .int 0, .null, .null, .null, .int 0, .null, .null, .null, .null, .null, .null, .null, .null, .null, .null, .null] j := by
  intro j hj
  rcases (show j = 0 ∨ j = 1 ∨ j = 2 ∨ j = 3 ∨ j = 4 ∨ j = 5 ∨ j = 6 ∨ j = 7 ∨ j = 8 ∨ j = 9 ∨ j = 10 ∨ j = 11 ∨ j = 12 ∨ j = 13 ∨ j = 14 ∨ j = 15 ∨ j = 16 ∨ j = 17 ∨ j = 18 ∨ j = 19 ∨ j = 20 by omega) with rfl | rfl | rfl | rfl | rfl | rfl | rfl | rfl | rfl | rfl | rfl | rfl | rfl | rfl | rfl | rfl | rfl | rfl | rfl | rfl | rfl <;> rfl
set_option maxHeartbeats 4000000 in
set_option maxRecDepth 100000 in
theorem open_b {p : Program} {l : Launch} {e : Env} {s : State} {m : MethodId} {below : List Frame} {meth : Method} {c : Code} {b L : Nat} {xs : Nat → Int32} (hst : l.stackTraces = false) (C0 : lw_At p s m meth c b L xs) {dC : Nat → ClassId} {dI : Nat → Nat → Nat} {cI cJ cN : ClassId} (hK : va_K (dC, dI) vwCl [(cI, .int), (cJ, .long)] s) (hK1 : va_K (dC, dI) vwCl [(cI, .int), (cJ, .long), (cN, .object RX1)] s) (hN : nw s) (hX : nx (fun q : Nat => s.heap.size ≤ q) s) (hL : L ≤ 2048) {h1 : Nat} {ad : Nat → Nat} {ka : Nat → Nat → Nat} {H : Heap} {locs : List Loc} {ls : Array Slot} (hP : va_P (dC, dI) vwCl (oA cI cJ cN h1 ad ka ++ kb cI cJ ka (fun _ => nv0) (List.range 20)) H) (hD : va_D (fun q : Nat => s.heap.size ≤ q) (oA cI cJ cN h1 ad ka ++ kb cI cJ ka (fun _ => nv0) (List.range 20))) (hS : va_S (fun q : Nat => s.heap.size ≤ q) s.heap H locs) (hl : lv_has ls 8 [(1, .ref h1), (0, .ref b)]) : W p l e room_1 s m #[Value.ref b] below meth c H locs 196 9882 (lw_Z below #[Value.ref b] s) (F0 m 8 ls []) := by
  obtain ⟨hx, hb, hr, hml, hown, hts0, hXs, hbl, hlocks, hgv⟩ := id C0
  have hts := fun w h => hts0 w (wsL_law_in w h)
  have hA : ∀ q : Nat, s.heap.size ≤ q → (fun q : Nat => s.heap.size ≤ q) q := fun _ h => h
  generalize hRe : kb cI cJ ka (fun _ => nv0) (List.range 20) = R9 at hP hD
  refine va_new (ci := 4) (fs := [.int 0, .int 0, .int 0, .null, .null, .int 0, .null, .null, .null, .int 0, .null, .null, .null, .null, .null, .null, .null, .null, .null, .null, .null]) (C := RX4) (T := TX4) (N := 21) hx hb hts0 inX4 tyX4 tyX4_ok hown (hts0 (.classLink RL 60 RX4) (by decide +kernel)) (hts0 (.instantiable RX4 21) (by decide +kernel)) (hts0 (.initialized RX4) (by decide +kernel)) hK1 hP hD hS hA rfl fs_X4 (by show _ ≤ 601024; omega) (by show _ ≤ 7293034; omega) dL_law_8 (fun h2 H hP hD hS => ?_)
  replace hP : va_P (dC, dI) vwCl ((oA cI cJ cN h1 ad ka ++ oN h2) ++ R9) H := hP.swap
  replace hD : va_D (fun q : Nat => s.heap.size ≤ q) ((oA cI cJ cN h1 ad ka ++ oN h2) ++ R9) := hD.swap
  refine lv_dup hx hb dL_law_11 rfl ?_
  have hPc := hP.sub (ws' := oN h2) [16] rfl
  have hDc := hD.sub (ws' := oN h2) [16] (by decide) rfl
  have hFc := va_free (wc := oN h2) hD hS hA [16] rfl
  refine va_callv (va_runI (As := []) (rest := [.ref h2]) ⟨hx, hb, hml, hown, hts⟩ (c_X4_init l dC dI cI cJ h2 H.size) (cwI 0 hts gL_law_X4_init rfl rfl rfl (hts0 (.initialized RX4) (by decide +kernel)) (hts0 (.methodLink RL 62 yX4_init) (by decide +kernel)) (hts0 (.instanceMethod yX4_init) (by decide +kernel)) rfl (by decide +kernel) ⟨Nat.le_of_ble_eq_true rfl, Nat.le_of_ble_eq_true rfl⟩) ⟨fun a U g mk q => by obtain ⟨q0, q1, qP, qK, qD, qN⟩ := q; exact ⟨q0, q1, qP, va_K.moved (u := U) (U := U.calling g mk a) (Vm.Alike.refl U.vm) qK, qD, nw_same rfl qN⟩, fun U hU hW => ⟨rfl, by rw [hU], by rw [hU]; exact hPc, va_K.moved hW.alike hK, hDc.weaken (fun _ _ _ _ => trivial), nw_warm hW hN⟩⟩ rfl rfl hl.1 rfl (lv_room (Nat.le_of_ble_eq_true rfl)) dL_law_12 ⟨by show _ ≤ 601024; omega, by show _ ≤ 7293034; omega⟩) hS (fun q _ h => hFc q h) hFc (fun u t H1 locs ht9 hvm hw hB hz1 hk1 hS => ?_)
  obtain ⟨e0, e1, e2, e3, e4, e5, e6, e7, e8, e9, e10, e11, e12, e13, e14, e15⟩ := u
  obtain ⟨hP1, hK9, hD1⟩ := hB
  rw [ht9] at hP1
  obtain ⟨hP, hD⟩ := va_joinQ (wr := oA cI cJ cN h1 ad ka) (w1 := oX cI cJ h2 e0 e1 e2 e3 e4 e5 e6 e7 e8 e9 e10 e11 e12 e13 e14 e15) hP hD [16] [0, 1, 2, 3, 4, 5, 6, 7, 8, 9, 10, 11, 12, 13, 14, 15] rfl rfl (by decide) (by decide) hk1 hFc hP1 hD1
  generalize H1 = H at hP hS ⊢
  refine lv_astore_n (lv' := [(2, .ref h2), (1, .ref h1), (0, .ref b)]) hx hb dL_law_15 rfl hl (by decide) rfl (fun ls hl => ?_)
  subst hRe
  refine W.widen (k := 213) (n := 19599) (by omega) (by omega) ?_
  exact open_c (h1 := h1) (h2 := h2) (ad := ad) (ka := ka) (e0 := e0) (e1 := e1) (e2 := e2) (e3 := e3) (e4 := e4) (e5 := e5) (e6 := e6) (e7 := e7) (e8 := e8) (e9 := e9) (e10 := e10) (e11 := e11) (e12 := e12) (e13 := e13) (e14 := e14) (e15 := e15) hst C0 hK1 hN hX hL hP hD hS hl

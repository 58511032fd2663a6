set_option maxHeartbeats 4000000 in
set_option maxRecDepth 100000 in
theorem whole_start {p : Program} {e : Env} {s : State} {m : MethodId} {below : List Frame} {meth : Method} {c : Code} (l : Launch) (hst : l.stackTraces = false) {b L : Nat} {xs : Nat → Int32} (hL : L ≤ 2048) (C0 : lw_At p s m meth c b L xs) : W p l e room_1 s m #[Value.ref b] below meth c s.heap [] 0 0 (lw_Z below #[Value.ref b] s) (entryFrame m ([Value.ref b] : List Value).toArray 8) := by
  obtain ⟨hx, hb, hr, hml, hown, hts0, hXs, hbl, hlocks, hgv⟩ := id C0
  have hts := fun w h => hts0 w (wsL_law_in w h)
  have hs := flat_of_before _ hgv
  have hA : ∀ q : Nat, s.heap.size ≤ q → (fun q : Nat => s.heap.size ≤ q) q := fun _ h => h
  have hnA : ∀ a : Nat, a < s.heap.size → ¬ (fun q : Nat => s.heap.size ≤ q) a := fun a h => Nat.not_le.mpr h
  obtain ⟨c0, iS0, hKn0⟩ := u_known (C := RX0) (T := TX0) (N := 2) (n := 2) hts0 inX0 (hts0 (.instantiable RX0 2) (by decide +kernel))
  obtain ⟨c1, iS1, hKn1⟩ := u_known (C := RX1) (T := TX1) (N := 10) (n := 10) hts0 inX1 (hts0 (.instantiable RX1 10) (by decide +kernel))
  obtain ⟨c2, iS2, hKn2⟩ := u_known (C := RX2) (T := TX2) (N := 1) (n := 1) hts0 inX2 (hts0 (.instantiable RX2 1) (by decide +kernel))
  obtain ⟨c3, iS3, hKn3⟩ := u_known (C := RX3) (T := TX3) (N := 5) (n := 5) hts0 inX3 (hts0 (.instantiable RX3 5) (by decide +kernel))
  obtain ⟨c4, iS4, hKn4⟩ := u_known (C := RX4) (T := TX4) (N := 21) (n := 21) hts0 inX4 (hts0 (.instantiable RX4 21) (by decide +kernel))
  obtain ⟨dC, dI, hKc⟩ : ∃ (dC : Nat → ClassId) (dI : Nat → Nat → Nat), ∀ (k : Nat) (q : vw_C), vwCl[k]? = some q → u_Kn s q.1 q.2.1 q.2.2 (dC k) (dI k) := by
    refine ⟨fun k => if k = 0 then c0 else if k = 1 then c1 else if k = 2 then c2 else if k = 3 then c3 else c4, fun k => if k = 0 then iS0 else if k = 1 then iS1 else if k = 2 then iS2 else if k = 3 then iS3 else iS4, ?_⟩
    intro k q hq
    match k, hq with
    | 0, hq => cases hq; exact hKn0
    | 1, hq => cases hq; exact hKn1
    | 2, hq => cases hq; exact hKn2
    | 3, hq => cases hq; exact hKn3
    | 4, hq => cases hq; exact hKn4
    | k + 5, hq => simp [vwCl] at hq
  obtain ⟨cI, hI1, hI2⟩ := ar_known (hts0 (.arrayClass .int) (by decide +kernel)) (by intro C h; cases h)
  obtain ⟨cJ, hJ1, hJ2⟩ := ar_known (hts0 (.arrayClass .long) (by decide +kernel)) (by intro C h; cases h)
  have hK : va_K (dC, dI) vwCl [(cI, .int), (cJ, .long)] s := ⟨hKc, fun k q h => by
    match k, h with
    | 0, h => cases h; exact ⟨hI1, hI2⟩
    | 1, h => cases h; exact ⟨hJ1, hJ2⟩
    | k + 2, h => simp at h⟩
  have hN : nw s := ⟨va_Nw.of rfl (hts0 (.methodLinkNest RX0 37 yX3_contains "EffectNets") (by decide +kernel)), va_Nw.of rfl (hts0 (.methodLinkNest RX0 86 yX3_containsAtom "EffectNets") (by decide +kernel)), va_Nw.of rfl (hts0 (.methodLinkNest RX0 95 yX3_bit "EffectNets") (by decide +kernel)), va_Nw.of rfl (hts0 (.methodLinkNest RX1 50 yX3_bit "EffectNets") (by decide +kernel)), va_Nw.of rfl (hts0 (.methodLinkNest RX1 71 yX3_contains "EffectNets") (by decide +kernel)), va_Nw.of rfl (hts0 (.methodLinkNest RX1 94 yX3_containsAtom "EffectNets") (by decide +kernel)), va_Nw.of rfl (hts0 (.methodLinkNest RX2 21 yX3_containsAtom "EffectNets") (by decide +kernel)), va_Nw.of rfl (hts0 (.methodLinkNest RX2 29 yX3_contains "EffectNets") (by decide +kernel)), va_Nw.of rfl (hts0 (.methodLinkNest RX2 40 yX3_least "EffectNets") (by decide +kernel)), va_Nw.of rfl (hts0 (.methodLinkNest RX3 9 yX1_init "EffectNets") (by decide +kernel)), va_Nw.of rfl (hts0 (.methodLinkNest RX3 18 yX0_init "EffectNets") (by decide +kernel)), va_Nw.of rfl (hts0 (.methodLinkNest RX3 25 yX2_init "EffectNets") (by decide +kernel))⟩
  have hAO : va_AO RX1 s := va_AO.of (hts0 (.arrayOver (.object RX1)) (by decide +kernel))
  obtain ⟨sa0, -, -, -, hsa0, -⟩ := Cond.exactly_spec (args := #[Value.ref b]) (first := s) (o := none) (s := s) (idx := []) (hs (.exactly (.string "EffectNets" 79) "java/lang/String") (by decide +kernel))
  obtain ⟨sa1, -, -, -, hsa1, -⟩ := Cond.exactly_spec (args := #[Value.ref b]) (first := s) (o := none) (s := s) (idx := []) (hs (.exactly (.string "EffectNets" 161) "java/lang/String") (by decide +kernel))
  obtain ⟨sa2, -, -, -, hsa2, -⟩ := Cond.exactly_spec (args := #[Value.ref b]) (first := s) (o := none) (s := s) (idx := []) (hs (.exactly (.string "EffectNets" 164) "java/lang/String") (by decide +kernel))
  obtain ⟨sa3, -, -, -, hsa3, -⟩ := Cond.exactly_spec (args := #[Value.ref b]) (first := s) (o := none) (s := s) (idx := []) (hs (.exactly (.string "EffectNets" 168) "java/lang/String") (by decide +kernel))
  have hX : nx (fun q : Nat => s.heap.size ≤ q) s := ⟨vx_Zqof (hts0 (.laysStatic Bundle.tN "UNASSIGNED_STACK" Bundle.steD) (by decide +kernel)) (hts0 (.initialized Bundle.tN) (by decide +kernel)) (hs (.isRef (.static Bundle.tN "UNASSIGNED_STACK" Bundle.steD)) (by decide +kernel)) hnA, vx_Zqof (hts0 (.laysStatic Bundle.tN "SUPPRESSED_SENTINEL" Bundle.listD) (by decide +kernel)) (hts0 (.initialized Bundle.tN) (by decide +kernel)) (hs (.isRef (.static Bundle.tN "SUPPRESSED_SENTINEL" Bundle.listD)) (by decide +kernel)) hnA, ⟨sa0, vk_R.of (hts0 (.stringRef "EffectNets" 79 "there is no mark") (by decide +kernel)) hsa0⟩, ⟨sa1, vk_R.of (hts0 (.stringRef "EffectNets" 161 "there is no such variable") (by decide +kernel)) hsa1⟩, ⟨sa2, vk_R.of (hts0 (.stringRef "EffectNets" 164 "there is no such atom") (by decide +kernel)) hsa2⟩, ⟨sa3, vk_R.of (hts0 (.stringRef "EffectNets" 168 "the level is not 0 .. 9") (by decide +kernel)) hsa3⟩, va_Nc.of (hs (.not (.castable "java/lang/IllegalArgumentException" "java/lang/IndexOutOfBoundsException")) (by decide +kernel)), va_Nw.of rfl (hts0 (.castable "java/lang/IllegalArgumentException" "java/lang/IllegalArgumentException") (by decide +kernel)), va_Nw.of rfl (hts0 (.castable "java/lang/IndexOutOfBoundsException" "java/lang/IndexOutOfBoundsException") (by decide +kernel)), va_Nw.of rfl (hts0 (.castable "java/lang/IllegalStateException" "java/lang/IllegalStateException") (by decide +kernel)), va_Nw.of rfl (hts0 (.declares ⟨"java/lang/RuntimeException", "<init>", "(Ljava/lang/String;)V"⟩) (by decide +kernel)), va_Nw.of rfl (hts0 (.declares ⟨"java/lang/Exception", "<init>", "(Ljava/lang/String;)V"⟩) (by decide +kernel)), va_Nw.of rfl (hts0 (.declares ⟨"java/lang/Throwable", "<init>", "(Ljava/lang/String;)V"⟩) (by decide +kernel))⟩
  have hS : va_S (fun q : Nat => s.heap.size ≤ q) s.heap s.heap [] := va_S.rf
  have hP : va_P (dC, dI) vwCl [] s.heap := fun k q h => by simp at h
  have hD : va_D (fun q : Nat => s.heap.size ≤ q) [] := ⟨fun i j p q h => by simp at h, fun k q h => by simp at h⟩
  have hl := lv_entry ([.ref b]) (n := 8) (Nat.le_of_ble_eq_true rfl)
  rw [lg_entry_eq]
  generalize (lg_sl ([.ref b]) ++ List.replicate (8 - (lg_sl ([.ref b])).length) Slot.unset).toArray = ls at hl ⊢
  replace hl : lv_has ls 8 [(0, .ref b)] := hl
  refine va_new (ci := 3) (fs := [.null, .null, .null, .null, .int 0]) (C := RX3) (T := TX3) (N := 5) hx hb hts0 inX3 tyX3 tyX3_ok hown (hts0 (.classLink RL 8 RX3) (by decide +kernel)) (hts0 (.instantiable RX3 5) (by decide +kernel)) (hts0 (.initialized RX3) (by decide +kernel)) hK hP hD hS hA rfl (fun j hj => by rcases (show j = 0 ∨ j = 1 ∨ j = 2 ∨ j = 3 ∨ j = 4 by omega) with rfl | rfl | rfl | rfl | rfl <;> rfl) (by show _ ≤ 601024; omega) (by show _ ≤ 7293034; omega) dL_law_0 (fun h1 H hP hD hS => ?_)
  replace hP : va_P (dC, dI) vwCl [(h1, .inr (3, [.null, .null, .null, .null, .int 0]))] H := hP
  replace hD : va_D (fun q : Nat => s.heap.size ≤ q) [(h1, .inr (3, [.null, .null, .null, .null, .int 0]))] := hD
  refine lv_dup hx hb dL_law_3 rfl ?_
  have hPc := hP.sub (ws' := [(h1, .inr (3, [.null, .null, .null, .null, .int 0]))]) [0] rfl
  have hDc := hD.sub (ws' := [(h1, .inr (3, [.null, .null, .null, .null, .int 0]))]) [0] (by decide) rfl
  have hFc := va_free (wc := [(h1, .inr (3, [.null, .null, .null, .null, .int 0]))]) hD hS hA [0] rfl
  refine va_callv (va_runI (As := []) (rest := [.ref h1]) ⟨hx, hb, hml, hown, hts⟩ (c_X3_init l dC dI cI cJ h1 H.size) (cwI 0 hts gL_law_X3_init rfl rfl rfl (hts0 (.initialized RX3) (by decide +kernel)) (hts0 (.methodLink RL 59 yX3_init) (by decide +kernel)) (hts0 (.instanceMethod yX3_init) (by decide +kernel)) rfl (by decide +kernel) ⟨Nat.le_of_ble_eq_true rfl, Nat.le_of_ble_eq_true rfl⟩) ⟨fun a U g mk q => by obtain ⟨q0, q1, qP, qK, qD, qN, qA⟩ := q; exact ⟨q0, q1, qP, va_K.moved (u := U) (U := U.calling g mk a) (Vm.Alike.refl U.vm) qK, qD, nw_same rfl qN, va_AO.moved (u := U) (U := U.calling g mk a) (Vm.Alike.refl U.vm) qA⟩, fun U hU hW => ⟨rfl, by rw [hU], by rw [hU]; exact hPc, va_K.moved hW.alike hK, hDc.weaken (fun _ _ _ _ => trivial), nw_warm hW hN, va_AO.moved hW.alike hAO⟩⟩ rfl rfl hl.1 rfl (lv_room (Nat.le_of_ble_eq_true rfl)) dL_law_4 ⟨by show _ ≤ 601024; omega, by show _ ≤ 7293034; omega⟩) hS (fun q _ h => hFc q h) hFc (fun u t H1 locs ht9 hvm hw hB hz1 hk1 hS => ?_)
  obtain ⟨cN, ad, ka⟩ := u
  obtain ⟨hP1, hK1, hD1⟩ := hB
  rw [ht9] at hP1
  replace hK1 := va_K.moved hvm.symm hK1
  replace hK1 : va_K (dC, dI) vwCl [(cI, .int), (cJ, .long), (cN, .object RX1)] s := hK1
  obtain ⟨hP, hD⟩ := va_join (wr := []) (w1 := [(h1, .inr (3, [.ref (ad 0), .ref (ad 9), .ref (ad 10), .ref (ad 13), .int 0])), (ad 9, .inl (cN, 20, .inr (.inr (.inr (.inr (kf ka 20)))))), ((ad 0), .inr (1, [.int 0, .int 0, .ref (ad 1), .ref (ad 2), .ref (ad 3), .ref (ad 4), .ref (ad 5), .ref (ad 6), .ref (ad 7), .ref (ad 8)])), ((ad 1), .inl (cI, 60, .inl (fun _ => 0))), ((ad 2), .inl (cI, 32, .inl (fun _ => 0))), ((ad 3), .inl (cI, 60, .inl (fun _ => 0))), ((ad 4), .inl (cJ, 60, .inr (.inl (fun _ => 0)))), ((ad 5), .inl (cJ, 60, .inr (.inl (fun _ => 0)))), ((ad 6), .inl (cI, 60, .inl (fun _ => 0))), ((ad 7), .inl (cJ, 60, .inr (.inl (fun _ => 0)))), ((ad 8), .inl (cI, 60, .inl (fun _ => 0))), (ad 10, .inr (0, [.ref (ad 11), .ref (ad 12)])), (ad 11, .inl (cI, 60, .inl (fun _ => 0))), (ad 12, .inl (cI, 32, .inl (fun _ => 0))), (ad 13, .inr (2, [.ref (ad 14)])), (ad 14, .inl (cJ, 60, .inr (.inl (fun _ => 0))))] ++ kb cI cJ ka (fun _ => nv0) (List.range 20)) hP hD [0] [] rfl rfl (by decide) (by decide) hk1 hFc hP1 hD1
  generalize H1 = H at hP hS ⊢
  generalize hRe : kb cI cJ ka (fun _ => nv0) (List.range 20) = R9 at hP hD
  replace hP : va_P (dC, dI) vwCl (oA cI cJ cN h1 ad ka ++ R9) H := hP
  replace hD : va_D (fun q : Nat => s.heap.size ≤ q) (oA cI cJ cN h1 ad ka ++ R9) := hD
  refine lv_astore_n (lv' := [(1, .ref h1), (0, .ref b)]) hx hb dL_law_7 rfl hl (by decide) rfl (fun ls hl => ?_)
  subst hRe
  refine W.widen (k := 196) (n := 9882) (by omega) (by omega) ?_
  exact open_b (h1 := h1) (ad := ad) (ka := ka) hst C0 hK hK1 hN hX hL hP hD hS hl

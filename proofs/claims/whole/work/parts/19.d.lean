set_option maxHeartbeats 8000000 in
set_option maxRecDepth 100000 in
theorem law_loop {p : Program} {l : Launch} {e : Env} {s : State} {m : MethodId} {below : List Frame} {meth : Method} {c : Code} {b L : Nat} {xs : Nat → Int32} (hst : l.stackTraces = false) (C0 : lw_At p s m meth c b L xs) {dC : Nat → ClassId} {dI : Nat → Nat → Nat} {cI cJ cN : ClassId} (hK : va_K (dC, dI) vwCl [(cI, .int), (cJ, .long), (cN, .object RX1)] s) (hN : nw s) (hX : nx (fun q : Nat => s.heap.size ≤ q) s) {h1 akept anet afbi afab afhd afin afjo afnu afre afse acop afvf afaf awf afla h2 agbi agab aghv agic agbe agmt agmv agma agnd agre agse aglv agal agds agno agna h3 : Nat} {ka : Nat → Nat → Nat} (hL : L ≤ 2048) (I : Int32 → Int32 → Int32 → (Nat → Int32) → (Nat → Int32) → (Nat → Int32) → (Nat → Int64) → (Nat → Int64) → (Nat → Int32) → (Nat → Int64) → (Nat → Int32) → (Nat → NV) → (Nat → Int32) → (Nat → Int32) → (Nat → Int64) → Int32 → Int32 → Int32 → Int32 → Int32 → (Nat → Int32) → (Nat → Int32) → (Nat → Int32) → (Nat → Int32) → (Nat → Int32) → (Nat → Int32) → (Nat → Int32) → (Nat → Int32) → (Nat → Int32) → (Nat → Int64) → (Nat → Int32) → (Nat → Int32) → (Nat → Int32) → (Nat → Int32) → (Nat → Int32) → (Nat → Int32) → (Nat → Int64) → Prop) (hI : ∀ (x4 : Int32) (mk : Int32) (nv : Int32) (na : Int32) (fbi : Nat → Int32) (fab : Nat → Int32) (fhd : Nat → Int32) (fin : Nat → Int64) (fjo : Nat → Int64) (fnu : Nat → Int32) (fre : Nat → Int64) (fse : Nat → Int32) (kv : Nat → NV) (fvf : Nat → Int32) (faf : Nat → Int32) (fla : Nat → Int64) (xth : Int32) (xnv : Int32) (xna : Int32) (xtl : Int32) (xmk : Int32) (gbi : Nat → Int32) (gab : Nat → Int32) (ghv : Nat → Int32) (gic : Nat → Int32) (gbe : Nat → Int32) (gmt : Nat → Int32) (gmv : Nat → Int32) (gma : Nat → Int32) (gnd : Nat → Int32) (gre : Nat → Int64) (gse : Nat → Int32) (glv : Nat → Int32) (gal : Nat → Int32) (gds : Nat → Int32) (gno : Nat → Int32) (gna : Nat → Int32) (gp3 : Nat → Int64), I mk nv na fbi fab fhd fin fjo fnu fre fse kv fvf faf fla xth xnv xna xtl xmk gbi gab ghv gic gbe gmt gmv gma gnd gre gse glv gal gds gno gna gp3 → T_law_0 xs x4 mk nv na fbi fab fhd fin fjo fnu fre fse kv fvf faf fla xth xnv xna xtl xmk gbi gab ghv gic gbe gmt gmv gma gnd gre gse glv gal gds gno gna gp3 I ∧ T_law_1 xs x4 mk nv na fbi fab fhd fin fjo fnu fre fse kv fvf faf fla xth xnv xna xtl xmk gbi gab ghv gic gbe gmt gmv gma gnd gre gse glv gal gds gno gna gp3 I ∧ T_law_2 xs x4 mk nv na fbi fab fhd fin fjo fnu fre fse kv fvf faf fla xth xnv xna xtl xmk gbi gab ghv gic gbe gmt gmv gma gnd gre gse glv gal gds gno gna gp3 I ∧ T_law_3 xs x4 mk nv na fbi fab fhd fin fjo fnu fre fse kv fvf faf fla xth xnv xna xtl xmk gbi gab ghv gic gbe gmt gmv gma gnd gre gse glv gal gds gno gna gp3 I ∧ T_law_4 xs x4 mk nv na fbi fab fhd fin fjo fnu fre fse kv fvf faf fla xth xnv xna xtl xmk gbi gab ghv gic gbe gmt gmv gma gnd gre gse glv gal gds gno gna gp3 I ∧ T_law_5 xs x4 mk nv na fbi fab fhd fin fjo fnu fre fse kv fvf faf fla xth xnv xna xtl xmk gbi gab ghv gic gbe gmt gmv gma gnd gre gse glv gal gds gno gna gp3 I ∧ T_law_6 xs x4 mk nv na fbi fab fhd fin fjo fnu fre fse kv fvf faf fla xth xnv xna xtl xmk gbi gab ghv gic gbe gmt gmv gma gnd gre gse glv gal gds gno gna gp3 I ∧ T_law_7 xs x4 mk nv na fbi fab fhd fin fjo fnu fre fse kv fvf faf fla xth xnv xna xtl xmk gbi gab ghv gic gbe gmt gmv gma gnd gre gse glv gal gds gno gna gp3 I ∧ T_law_8 xs x4 mk nv na fbi fab fhd fin fjo fnu fre fse kv fvf faf fla xth xnv xna xtl xmk gbi gab ghv gic gbe gmt gmv gma gnd gre gse glv gal gds gno gna gp3 I ∧ T_law_9 xs x4 mk nv na fbi fab fhd fin fjo fnu fre fse kv fvf faf fla xth xnv xna xtl xmk gbi gab ghv gic gbe gmt gmv gma gnd gre gse glv gal gds gno gna gp3 I ∧ T_law_10 xs x4 mk nv na fbi fab fhd fin fjo fnu fre fse kv fvf faf fla xth xnv xna xtl xmk gbi gab ghv gic gbe gmt gmv gma gnd gre gse glv gal gds gno gna gp3 I ∧ T_law_11 xs x4 mk nv na fbi fab fhd fin fjo fnu fre fse kv fvf faf fla xth xnv xna xtl xmk gbi gab ghv gic gbe gmt gmv gma gnd gre gse glv gal gds gno gna gp3 I ∧ T_law_12 xs x4 mk nv na fbi fab fhd fin fjo fnu fre fse kv fvf faf fla xth xnv xna xtl xmk gbi gab ghv gic gbe gmt gmv gma gnd gre gse glv gal gds gno gna gp3 I ∧ T_law_13 xs x4 mk nv na fbi fab fhd fin fjo fnu fre fse kv fvf faf fla xth xnv xna xtl xmk gbi gab ghv gic gbe gmt gmv gma gnd gre gse glv gal gds gno gna gp3 I ∧ T_law_14 xs x4 mk nv na fbi fab fhd fin fjo fnu fre fse kv fvf faf fla xth xnv xna xtl xmk gbi gab ghv gic gbe gmt gmv gma gnd gre gse glv gal gds gno gna gp3 I ∧ T_law_15 xs x4 mk nv na fbi fab fhd fin fjo fnu fre fse kv fvf faf fla xth xnv xna xtl xmk gbi gab ghv gic gbe gmt gmv gma gnd gre gse glv gal gds gno gna gp3 I) : ∀ (n j : Nat), L < 4 * (j + n) + 4 → 4 * j ≤ L → ∀ (mk : Int32) (nv : Int32) (na : Int32) (fbi : Nat → Int32) (fab : Nat → Int32) (fhd : Nat → Int32) (fin : Nat → Int64) (fjo : Nat → Int64) (fnu : Nat → Int32) (fre : Nat → Int64) (fse : Nat → Int32) (kv : Nat → NV) (fvf : Nat → Int32) (faf : Nat → Int32) (fla : Nat → Int64) (xth : Int32) (xnv : Int32) (xna : Int32) (xtl : Int32) (xmk : Int32) (gbi : Nat → Int32) (gab : Nat → Int32) (ghv : Nat → Int32) (gic : Nat → Int32) (gbe : Nat → Int32) (gmt : Nat → Int32) (gmv : Nat → Int32) (gma : Nat → Int32) (gnd : Nat → Int32) (gre : Nat → Int64) (gse : Nat → Int32) (glv : Nat → Int32) (gal : Nat → Int32) (gds : Nat → Int32) (gno : Nat → Int32) (gna : Nat → Int32) (gp3 : Nat → Int64), I mk nv na fbi fab fhd fin fjo fnu fre fse kv fvf faf fla xth xnv xna xtl xmk gbi gab ghv gic gbe gmt gmv gma gnd gre gse glv gal gds gno gna gp3 → ∀ (H : Heap) (locs : List Loc) (ls : Array Slot), va_P (dC, dI) vwCl (lW cI cJ cN h1 akept anet afbi afab afhd afin afjo afnu afre afse acop afvf afaf awf afla h2 agbi agab aghv agic agbe agmt agmv agma agnd agre agse aglv agal agds agno agna h3 ka mk nv na fbi fab fhd fin fjo fnu fre fse fvf faf fla xth xnv xna xtl xmk gbi gab ghv gic gbe gmt gmv gma gnd gre gse glv gal gds gno gna gp3 ++ kb cI cJ ka kv (List.range 20)) H → va_D (fun q : Nat => s.heap.size ≤ q) (lW cI cJ cN h1 akept anet afbi afab afhd afin afjo afnu afre afse acop afvf afaf awf afla h2 agbi agab aghv agic agbe agmt agmv agma agnd agre agse aglv agal agds agno agna h3 ka mk nv na fbi fab fhd fin fjo fnu fre fse fvf faf fla xth xnv xna xtl xmk gbi gab ghv gic gbe gmt gmv gma gnd gre gse glv gal gds gno gna gp3 ++ kb cI cJ ka kv (List.range 20)) → va_S (fun q : Nat => s.heap.size ≤ q) s.heap H locs → lv_has ls 8 [(4, .int (nI (4 * j))), (3, .ref h3), (2, .ref h2), (1, .ref h1), (0, .ref b)] → W p l e room_1 s m #[Value.ref b] below meth c H locs (214 + 2 * j) (19600 + 12 * j) (lw_Z below #[Value.ref b] s) (F0 m 23 ls []) := by
  obtain ⟨hx, hb, hr, hml, hown, hts0, hXs, hbl, hlocks, hgv⟩ := id C0
  have hbA : ¬ (fun q : Nat => s.heap.size ≤ q) b := Nat.not_le.mpr hbl
  have hd : ∀ j : Nat, 4 * j ≤ L → ¬ (Int32.ofNat L - 4 < nI (4 * j)) → 4 * j + 4 ≤ L := by
    intro j hj h
    have e1 : (nI L - nI 4).toInt = (L : Int) - (4 : Nat) := pk_sub_toInt (by omega) (by decide)
    have e2 : (nI (4 * j)).toInt = ((4 * j : Nat) : Int) := nI_toInt (by omega)
    have h2 : ¬ ((nI L - nI 4).toInt < (nI (4 * j)).toInt) := fun q => h (Int32.lt_iff_toInt_lt.mpr q)
    rw [e1, e2] at h2
    omega
  intro n
  induction n with
  | zero =>
    intro j hn hj mk nv na fbi fab fhd fin fjo fnu fre fse kv fvf faf fla xth xnv xna xtl xmk gbi gab ghv gic gbe gmt gmv gma gnd gre gse glv gal gds gno gna gp3 hi H locs ls hP hD hS hl
    refine lv_iload hx hb dL_law_23 (lv_at hl 0 rfl) ?_
    refine lv_aload_n hx hb dL_law_25 rfl (lv_at hl 4 rfl) ?_
    refine va_slen hx hb hXs hbl hbA hS dL_law_26 ?_
    refine lv_iconst (v := 4) hx hb dL_law_27 (by decide) ?_
    refine lv_isub hx hb dL_law_28 ?_
    refine lv_icmp_gt (tgt := 996) hx hb dL_law_29 (by decide) (fun c1 => ?_) (fun c1 => ?_)
    · refine lv_iconst (v := 1) hx hb dL_law_996 (by decide) ?_
      refine va_forget (fun q hq => hS.2.2 q hq) ?_
      refine W.widen (k := 601024) (n := 7293034) (by omega) (by omega) ?_
      exact lw_ret hx hb hr hlocks dL_law_997
    · exact absurd (hd j hj c1) (by omega)
  | succ n ih =>
    intro j hn hj mk nv na fbi fab fhd fin fjo fnu fre fse kv fvf faf fla xth xnv xna xtl xmk gbi gab ghv gic gbe gmt gmv gma gnd gre gse glv gal gds gno gna gp3 hi H locs ls hP hD hS hl
    refine lv_iload hx hb dL_law_23 (lv_at hl 0 rfl) ?_
    refine lv_aload_n hx hb dL_law_25 rfl (lv_at hl 4 rfl) ?_
    refine va_slen hx hb hXs hbl hbA hS dL_law_26 ?_
    refine lv_iconst (v := 4) hx hb dL_law_27 (by decide) ?_
    refine lv_isub hx hb dL_law_28 ?_
    refine lv_icmp_gt (tgt := 996) hx hb dL_law_29 (by decide) (fun c1 => ?_) (fun c1 => ?_)
    · refine lv_iconst (v := 1) hx hb dL_law_996 (by decide) ?_
      refine va_forget (fun q hq => hS.2.2 q hq) ?_
      refine W.widen (k := 601024) (n := 7293034) (by omega) (by omega) ?_
      exact lw_ret hx hb hr hlocks dL_law_997
    · have hlt := hd j hj c1
      have hr0 : vp_in (nI (4 * j)) L := vp_in_nI (by omega) (by omega)
      have hr1 : vp_in (nI (4 * j) + 1) L := by rw [show (1 : Int32) = nI 1 from rfl, nI_add]; exact vp_in_nI (by omega) (by omega)
      have hr2 : vp_in (nI (4 * j) + 2) L := by rw [show (2 : Int32) = nI 2 from rfl, nI_add]; exact vp_in_nI (by omega) (by omega)
      have hr3 : vp_in (nI (4 * j) + 3) L := by rw [show (3 : Int32) = nI 3 from rfl, nI_add]; exact vp_in_nI (by omega) (by omega)
      have hk : ∀ (mk : Int32) (nv : Int32) (na : Int32) (fbi : Nat → Int32) (fab : Nat → Int32) (fhd : Nat → Int32) (fin : Nat → Int64) (fjo : Nat → Int64) (fnu : Nat → Int32) (fre : Nat → Int64) (fse : Nat → Int32) (kv : Nat → NV) (fvf : Nat → Int32) (faf : Nat → Int32) (fla : Nat → Int64) (xth : Int32) (xnv : Int32) (xna : Int32) (xtl : Int32) (xmk : Int32) (gbi : Nat → Int32) (gab : Nat → Int32) (ghv : Nat → Int32) (gic : Nat → Int32) (gbe : Nat → Int32) (gmt : Nat → Int32) (gmv : Nat → Int32) (gma : Nat → Int32) (gnd : Nat → Int32) (gre : Nat → Int64) (gse : Nat → Int32) (glv : Nat → Int32) (gal : Nat → Int32) (gds : Nat → Int32) (gno : Nat → Int32) (gna : Nat → Int32) (gp3 : Nat → Int64), I mk nv na fbi fab fhd fin fjo fnu fre fse kv fvf faf fla xth xnv xna xtl xmk gbi gab ghv gic gbe gmt gmv gma gnd gre gse glv gal gds gno gna gp3 → ∀ (H : Heap) (locs : List Loc) (ls : Array Slot), va_P (dC, dI) vwCl (lW cI cJ cN h1 akept anet afbi afab afhd afin afjo afnu afre afse acop afvf afaf awf afla h2 agbi agab aghv agic agbe agmt agmv agma agnd agre agse aglv agal agds agno agna h3 ka mk nv na fbi fab fhd fin fjo fnu fre fse fvf faf fla xth xnv xna xtl xmk gbi gab ghv gic gbe gmt gmv gma gnd gre gse glv gal gds gno gna gp3 ++ kb cI cJ ka kv (List.range 20)) H → va_D (fun q : Nat => s.heap.size ≤ q) (lW cI cJ cN h1 akept anet afbi afab afhd afin afjo afnu afre afse acop afvf afaf awf afla h2 agbi agab aghv agic agbe agmt agmv agma agnd agre agse aglv agal agds agno agna h3 ka mk nv na fbi fab fhd fin fjo fnu fre fse fvf faf fla xth xnv xna xtl xmk gbi gab ghv gic gbe gmt gmv gma gnd gre gse glv gal gds gno gna gp3 ++ kb cI cJ ka kv (List.range 20)) → va_S (fun q : Nat => s.heap.size ≤ q) s.heap H locs → lv_has ls 8 [(4, .int (nI (4 * j))), (3, .ref h3), (2, .ref h2), (1, .ref h1), (0, .ref b)] → W p l e room_1 s m #[Value.ref b] below meth c H locs (214 + 2 * j + 2) (19600 + 12 * j + 12) (lw_Z below #[Value.ref b] s) (F0 m 990 ls []) := by
        intro mk nv na fbi fab fhd fin fjo fnu fre fse kv fvf faf fla xth xnv xna xtl xmk gbi gab ghv gic gbe gmt gmv gma gnd gre gse glv gal gds gno gna gp3 hi H locs ls hP hD hS hl
        obtain ⟨y, ey⟩ : ∃ y : Int32, y = nI (4 * j) + 4 := ⟨_, rfl⟩
        refine lv_iinc (v := y) (lv' := [(4, .int y), (3, .ref h3), (2, .ref h2), (1, .ref h1), (0, .ref b)]) hx hb dL_law_990 hl (k := 0) rfl (by rw [ey]; rfl) (by decide) rfl (fun ls hl => ?_)
        have ey2 : y = nI (4 * (j + 1)) := by rw [ey, show (4 : Int32) = nI 4 from rfl, nI_add]; exact congrArg nI (by omega)
        subst ey2
        refine lv_goto (tgt := 23) hx hb dL_law_993 (by decide) ?_
        refine W.widen (k := 214 + 2 * (j + 1)) (n := 19600 + 12 * (j + 1)) (by omega) (by omega) ?_
        exact ih (j + 1) (by omega) (by omega) mk nv na fbi fab fhd fin fjo fnu fre fse kv fvf faf fla xth xnv xna xtl xmk gbi gab ghv gic gbe gmt gmv gma gnd gre gse glv gal gds gno gna gp3 hi _ _ _ hP hD hS hl
      have hT := hI (nI (4 * j)) mk nv na fbi fab fhd fin fjo fnu fre fse kv fvf faf fla xth xnv xna xtl xmk gbi gab ghv gic gbe gmt gmv gma gnd gre gse glv gal gds gno gna gp3 hi
      refine lv_aload_n hx hb dL_law_32 rfl (lv_at hl 4 rfl) ?_
      refine lv_iload hx hb dL_law_33 (lv_at hl 0 rfl) ?_
      refine va_sld hx hb hXs hbl hbA hS hr0 dL_law_35 ?_
      refine lv_bipush (v := 15) hx hb dL_law_36 (by decide) ?_
      refine lv_iand hx hb dL_law_38 ?_
      obtain ⟨k, hk16, ek⟩ := pk_andE (xs (nI (4 * j)).toNatClampNeg) (m := 15) 4 (by decide)
      rw [ek]
      match k, hk16 with
      | 0, _ =>
        refine lv_tableIn (off := 77) (tgt := 116) hx hb dL_law_39 (by decide) (by decide) (by decide) (by decide) ?_
        exact law_0 hst C0 hK hN hX (nI (4 * j)) hr1 hr2 hr3 (by omega) (by omega) I hk mk nv na fbi fab fhd fin fjo fnu fre fse kv fvf faf fla xth xnv xna xtl xmk gbi gab ghv gic gbe gmt gmv gma gnd gre gse glv gal gds gno gna gp3 hT.1 H locs ls hP hD hS hl
      | 1, _ =>
        refine lv_tableIn (off := 133) (tgt := 172) hx hb dL_law_39 (by decide) (by decide) (by decide) (by decide) ?_
        exact law_1 hst C0 hK hN hX (nI (4 * j)) hr1 hr2 hr3 (by omega) (by omega) I hk mk nv na fbi fab fhd fin fjo fnu fre fse kv fvf faf fla xth xnv xna xtl xmk gbi gab ghv gic gbe gmt gmv gma gnd gre gse glv gal gds gno gna gp3 hT.2.1 H locs ls hP hD hS hl
      | 2, _ =>
        refine lv_tableIn (off := 189) (tgt := 228) hx hb dL_law_39 (by decide) (by decide) (by decide) (by decide) ?_
        exact law_2 hst C0 hK hN hX (nI (4 * j)) hr1 hr2 hr3 (by omega) (by omega) I hk mk nv na fbi fab fhd fin fjo fnu fre fse kv fvf faf fla xth xnv xna xtl xmk gbi gab ghv gic gbe gmt gmv gma gnd gre gse glv gal gds gno gna gp3 hT.2.2.1 H locs ls hP hD hS hl
      | 3, _ =>
        refine lv_tableIn (off := 257) (tgt := 296) hx hb dL_law_39 (by decide) (by decide) (by decide) (by decide) ?_
        exact law_3 hst C0 hK hN hX (nI (4 * j)) hr1 hr2 hr3 (by omega) (by omega) I hk mk nv na fbi fab fhd fin fjo fnu fre fse kv fvf faf fla xth xnv xna xtl xmk gbi gab ghv gic gbe gmt gmv gma gnd gre gse glv gal gds gno gna gp3 hT.2.2.2.1 H locs ls hP hD hS hl
      | 4, _ =>
        refine lv_tableIn (off := 325) (tgt := 364) hx hb dL_law_39 (by decide) (by decide) (by decide) (by decide) ?_
        exact law_4 hst C0 hK hN hX (nI (4 * j)) hr1 hr2 hr3 (by omega) (by omega) I hk mk nv na fbi fab fhd fin fjo fnu fre fse kv fvf faf fla xth xnv xna xtl xmk gbi gab ghv gic gbe gmt gmv gma gnd gre gse glv gal gds gno gna gp3 hT.2.2.2.2.1 H locs ls hP hD hS hl
      | 5, _ =>
        refine lv_tableIn (off := 393) (tgt := 432) hx hb dL_law_39 (by decide) (by decide) (by decide) (by decide) ?_
        exact law_5 hst C0 hK hN hX (nI (4 * j)) hr1 hr2 hr3 (by omega) (by omega) I hk mk nv na fbi fab fhd fin fjo fnu fre fse kv fvf faf fla xth xnv xna xtl xmk gbi gab ghv gic gbe gmt gmv gma gnd gre gse glv gal gds gno gna gp3 hT.2.2.2.2.2.1 H locs ls hP hD hS hl
      | 6, _ =>
        refine lv_tableIn (off := 406) (tgt := 445) hx hb dL_law_39 (by decide) (by decide) (by decide) (by decide) ?_
        exact law_6 hst C0 hK hN hX (nI (4 * j)) hr1 hr2 hr3 (by omega) (by omega) I hk mk nv na fbi fab fhd fin fjo fnu fre fse kv fvf faf fla xth xnv xna xtl xmk gbi gab ghv gic gbe gmt gmv gma gnd gre gse glv gal gds gno gna gp3 hT.2.2.2.2.2.2.1 H locs ls hP hD hS hl
      | 7, _ =>
        refine lv_tableIn (off := 474) (tgt := 513) hx hb dL_law_39 (by decide) (by decide) (by decide) (by decide) ?_
        exact law_7 hst C0 hK hN hX (nI (4 * j)) hr1 hr2 hr3 (by omega) (by omega) I hk mk nv na fbi fab fhd fin fjo fnu fre fse kv fvf faf fla xth xnv xna xtl xmk gbi gab ghv gic gbe gmt gmv gma gnd gre gse glv gal gds gno gna gp3 hT.2.2.2.2.2.2.2.1 H locs ls hP hD hS hl
      | 8, _ =>
        refine lv_tableIn (off := 487) (tgt := 526) hx hb dL_law_39 (by decide) (by decide) (by decide) (by decide) ?_
        exact law_8 hst C0 hK hN hX (nI (4 * j)) hr1 hr2 hr3 (by omega) (by omega) I hk mk nv na fbi fab fhd fin fjo fnu fre fse kv fvf faf fla xth xnv xna xtl xmk gbi gab ghv gic gbe gmt gmv gma gnd gre gse glv gal gds gno gna gp3 hT.2.2.2.2.2.2.2.2.1 H locs ls hP hD hS hl
      | 9, _ =>
        refine lv_tableIn (off := 531) (tgt := 570) hx hb dL_law_39 (by decide) (by decide) (by decide) (by decide) ?_
        exact law_9 hst C0 hK hN hX (nI (4 * j)) hr1 hr2 hr3 (by omega) (by omega) I hk mk nv na fbi fab fhd fin fjo fnu fre fse kv fvf faf fla xth xnv xna xtl xmk gbi gab ghv gic gbe gmt gmv gma gnd gre gse glv gal gds gno gna gp3 hT.2.2.2.2.2.2.2.2.2.1 H locs ls hP hD hS hl
      | 10, _ =>
        refine lv_tableIn (off := 587) (tgt := 626) hx hb dL_law_39 (by decide) (by decide) (by decide) (by decide) ?_
        exact law_10 hst C0 hK hN hX (nI (4 * j)) hr1 hr2 hr3 (by omega) (by omega) I hk mk nv na fbi fab fhd fin fjo fnu fre fse kv fvf faf fla xth xnv xna xtl xmk gbi gab ghv gic gbe gmt gmv gma gnd gre gse glv gal gds gno gna gp3 hT.2.2.2.2.2.2.2.2.2.2.1 H locs ls hP hD hS hl
      | 11, _ =>
        refine lv_tableIn (off := 655) (tgt := 694) hx hb dL_law_39 (by decide) (by decide) (by decide) (by decide) ?_
        exact law_11 hst C0 hK hN hX (nI (4 * j)) hr1 hr2 hr3 (by omega) (by omega) I hk mk nv na fbi fab fhd fin fjo fnu fre fse kv fvf faf fla xth xnv xna xtl xmk gbi gab ghv gic gbe gmt gmv gma gnd gre gse glv gal gds gno gna gp3 hT.2.2.2.2.2.2.2.2.2.2.2.1 H locs ls hP hD hS hl
      | 12, _ =>
        refine lv_tableIn (off := 710) (tgt := 749) hx hb dL_law_39 (by decide) (by decide) (by decide) (by decide) ?_
        exact law_12 hst C0 hK hN hX (nI (4 * j)) hr1 hr2 hr3 (by omega) (by omega) I hk mk nv na fbi fab fhd fin fjo fnu fre fse kv fvf faf fla xth xnv xna xtl xmk gbi gab ghv gic gbe gmt gmv gma gnd gre gse glv gal gds gno gna gp3 hT.2.2.2.2.2.2.2.2.2.2.2.2.1 H locs ls hP hD hS hl
      | 13, _ =>
        refine lv_tableIn (off := 778) (tgt := 817) hx hb dL_law_39 (by decide) (by decide) (by decide) (by decide) ?_
        exact law_13 hst C0 hK hN hX (nI (4 * j)) hr1 hr2 hr3 (by omega) (by omega) I hk mk nv na fbi fab fhd fin fjo fnu fre fse kv fvf faf fla xth xnv xna xtl xmk gbi gab ghv gic gbe gmt gmv gma gnd gre gse glv gal gds gno gna gp3 hT.2.2.2.2.2.2.2.2.2.2.2.2.2.1 H locs ls hP hD hS hl
      | 14, _ =>
        refine lv_tableIn (off := 846) (tgt := 885) hx hb dL_law_39 (by decide) (by decide) (by decide) (by decide) ?_
        exact law_14 hst C0 hK hN hX (nI (4 * j)) hr1 hr2 hr3 (by omega) (by omega) I hk mk nv na fbi fab fhd fin fjo fnu fre fse kv fvf faf fla xth xnv xna xtl xmk gbi gab ghv gic gbe gmt gmv gma gnd gre gse glv gal gds gno gna gp3 hT.2.2.2.2.2.2.2.2.2.2.2.2.2.2.1 H locs ls hP hD hS hl
      | 15, _ =>
        refine lv_tableIn (off := 926) (tgt := 965) hx hb dL_law_39 (by decide) (by decide) (by decide) (by decide) ?_
        exact law_15 hst C0 hK hN hX (nI (4 * j)) hr1 hr2 hr3 (by omega) (by omega) I hk mk nv na fbi fab fhd fin fjo fnu fre fse kv fvf faf fla xth xnv xna xtl xmk gbi gab ghv gic gbe gmt gmv gma gnd gre gse glv gal gds gno gna gp3 hT.2.2.2.2.2.2.2.2.2.2.2.2.2.2.2 H locs ls hP hD hS hl
      | k + 16, h => exact absurd h (by omega)

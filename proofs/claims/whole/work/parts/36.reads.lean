/-! set, seen, reach, of, ofAtom -/
theorem li_9 (xs : Nat → Int32) (x4 : Int32) {mk : Int32} {nv : Int32} {na : Int32} {fbi : Nat → Int32} {fab : Nat → Int32} {fhd : Nat → Int32} {fin : Nat → Int64} {fjo : Nat → Int64} {fnu : Nat → Int32} {fre : Nat → Int64} {fse : Nat → Int32} {kv : Nat → NV} {fvf : Nat → Int32} {faf : Nat → Int32} {fla : Nat → Int64} {xth : Int32} {xnv : Int32} {xna : Int32} {xtl : Int32} {xmk : Int32} {gbi : Nat → Int32} {gab : Nat → Int32} {ghv : Nat → Int32} {gic : Nat → Int32} {gbe : Nat → Int32} {gmt : Nat → Int32} {gmv : Nat → Int32} {gma : Nat → Int32} {gnd : Nat → Int32} {gre : Nat → Int64} {gse : Nat → Int32} {glv : Nat → Int32} {gal : Nat → Int32} {gds : Nat → Int32} {gno : Nat → Int32} {gna : Nat → Int32} {gp3 : Nat → Int64} (hI : lawI mk nv na fbi fab fhd fin fjo fnu fre fse kv fvf faf fla xth xnv xna xtl xmk gbi gab ghv gic gbe gmt gmv gma gnd gre gse glv gal gds gno gna gp3) : T_law_9 xs x4 mk nv na fbi fab fhd fin fjo fnu fre fse kv fvf faf fla xth xnv xna xtl xmk gbi gab ghv gic gbe gmt gmv gma gnd gre gse glv gal gds gno gna gp3 lawI := by
  obtain ⟨n, k, t, m, bi, ab, th, tic, tbe, mt, mv, ma, e1, e2, e3, e4, e5, e6, e7, ok, b1, b2, b3, b4, rt, ft, mo⟩ := hI
  subst e1 e2 e3 e4 e5 e6 e7
  have o1 := ok.1
  have o2 := ok.2.1
  unfold T_law_9
  generalize xs (x4 + 1).toNatClampNeg = x
  have stay : ∀ xth gnd gre gse glv gal gp3, lawI (nI m) (nI n) (nI k) fbi fab fhd fin fjo fnu fre fse kv fvf faf fla xth (nI n) (nI k) (nI t) (nI m) gbi gab ghv gic gbe gmt gmv gma gnd gre gse glv gal gds gno gna gp3 := fun _ _ _ _ _ _ _ => ⟨n, k, t, m, bi, ab, th, tic, tbe, mt, mv, ma, rfl, rfl, rfl, rfl, rfl, rfl, rfl, ok, b1, b2, b3, b4, rt, ft, mo⟩
  intro E hE
  apply hE
  intro E hE
  apply hE
  rcases ixs x (n := n) (by omega) with ⟨v, hv, rfl⟩ | hx
  · refine reqV_ok hv o1 ⟨in60 (by omega), v01, ?_⟩
    intro E K hK hE
    apply hE
    refine isV_ok hv o1 (go11 (gone (hK _ _ _ _ _ _ ?_)))
    refine sp_workOut ok b3 b4 (RT_relT o1 o2 rt ft) (fun _ _ gse1 _ _ w1 => ⟨in60 (by omega), ?_⟩)
    rw [cl31 (show v < 2 ^ 31 by omega)]
    exact tail0 (w1.2.2.1 v hv).symm (stay _ _ _ _ _ _ _)
  · refine reqV_bad hx ⟨rfl, ?_⟩
    intro E K hK hE
    apply hE
    exact isV_bad hx (go01 (gzer (tail1 (by decide) (stay _ _ _ _ _ _ _))))
theorem low_iff {L : Int32} {P : Nat → Prop} {f : Nat → Nat} {n c m : Nat} (h : isMin P f n c m) (hc : c < 2 ^ 31) (hf : ∀ w, w < n → f w < 2 ^ 31) : ¬ L < nI m ↔ (¬ L < nI c ∨ ∃ w, w < n ∧ P w ∧ ¬ L < nI (f w)) := by
  obtain ⟨h1, h2, h3⟩ := h
  have mono : ∀ a b, a ≤ b → b < 2 ^ 31 → ¬ L < nI b → ¬ L < nI a := by
    intro a b hab hb q c
    exact q (Int32.lt_of_lt_of_le c (nI_le hab hb))
  constructor
  · intro q
    rcases h1 with e | ⟨w, hw, hp, e⟩
    · rw [e] at q; exact Or.inl q
    · rw [← e] at q; exact Or.inr ⟨w, hw, hp, q⟩
  · rintro (q | ⟨w, hw, hp, q⟩)
    · exact mono m c h2 hc q
    · exact mono m (f w) (h3 w hw hp) (hf w hw) q
theorem alev_iff {n k : Nat} {L : Int32} {bi ab : Nat → Nat} {fbi fab fse : Nat → Int32} (b1 : biOK n fbi bi) (b2 : biOK k fab ab) {a m : Nat} (ha : a < k) (h : isALev n fse bi ab a m) : ¬ L < nI m ↔ ((∃ u, u < n ∧ ¬ L < fbi u ∧ ti (fse u) a = true) ∨ ¬ L < fab a) := by
  rw [low_iff h (by have := (b2 a ha).2; omega) (fun w hw => by have := (b1 w hw).2; omega)]
  constructor
  · rintro (q | ⟨w, hw, hp, q⟩)
    · rw [(b2 a ha).1]; exact Or.inr q
    · refine Or.inl ⟨w, hw, ?_, hp⟩; rw [(b1 w hw).1]; exact q
  · rintro (⟨w, hw, q, hp⟩ | q)
    · rw [(b1 w hw).1] at q; exact Or.inr ⟨w, hw, hp, q⟩
    · rw [(b2 a ha).1] at q; exact Or.inl q
theorem ti_iff {x y : Int32} (h : ∀ i, i < 32 → (ti x i = true ↔ ti y i = true)) : x = y := by
  apply ti_ext
  intro i hi
  have := h i hi
  cases q : ti x i <;> cases q2 : ti y i <;> simp [q, q2] at this ⊢
theorem tl_iff {x y : Int64} (h : ∀ i, i < 64 → (tl x i = true ↔ tl y i = true)) : x = y := by
  apply tl_ext
  intro i hi
  have := h i hi
  cases q : tl x i <;> cases q2 : tl y i <;> simp [q, q2] at this ⊢
theorem li_10 (xs : Nat → Int32) (x4 : Int32) {mk : Int32} {nv : Int32} {na : Int32} {fbi : Nat → Int32} {fab : Nat → Int32} {fhd : Nat → Int32} {fin : Nat → Int64} {fjo : Nat → Int64} {fnu : Nat → Int32} {fre : Nat → Int64} {fse : Nat → Int32} {kv : Nat → NV} {fvf : Nat → Int32} {faf : Nat → Int32} {fla : Nat → Int64} {xth : Int32} {xnv : Int32} {xna : Int32} {xtl : Int32} {xmk : Int32} {gbi : Nat → Int32} {gab : Nat → Int32} {ghv : Nat → Int32} {gic : Nat → Int32} {gbe : Nat → Int32} {gmt : Nat → Int32} {gmv : Nat → Int32} {gma : Nat → Int32} {gnd : Nat → Int32} {gre : Nat → Int64} {gse : Nat → Int32} {glv : Nat → Int32} {gal : Nat → Int32} {gds : Nat → Int32} {gno : Nat → Int32} {gna : Nat → Int32} {gp3 : Nat → Int64} (hI : lawI mk nv na fbi fab fhd fin fjo fnu fre fse kv fvf faf fla xth xnv xna xtl xmk gbi gab ghv gic gbe gmt gmv gma gnd gre gse glv gal gds gno gna gp3) : T_law_10 xs x4 mk nv na fbi fab fhd fin fjo fnu fre fse kv fvf faf fla xth xnv xna xtl xmk gbi gab ghv gic gbe gmt gmv gma gnd gre gse glv gal gds gno gna gp3 lawI := by
  obtain ⟨n, k, t, m, bi, ab, th, tic, tbe, mt, mv, ma, e1, e2, e3, e4, e5, e6, e7, ok, b1, b2, b3, b4, rt, ft, mo⟩ := hI
  subst e1 e2 e3 e4 e5 e6 e7
  have o1 := ok.1
  have o2 := ok.2.1
  unfold T_law_10
  generalize xs (x4 + 1).toNatClampNeg = x
  generalize xs (x4 + 2).toNatClampNeg = L
  have stay : ∀ xth gnd gre gse glv gal gp3, lawI (nI m) (nI n) (nI k) fbi fab fhd fin fjo fnu fre fse kv fvf faf fla xth (nI n) (nI k) (nI t) (nI m) gbi gab ghv gic gbe gmt gmv gma gnd gre gse glv gal gds gno gna gp3 := fun _ _ _ _ _ _ _ => ⟨n, k, t, m, bi, ab, th, tic, tbe, mt, mv, ma, rfl, rfl, rfl, rfl, rfl, rfl, rfl, ok, b1, b2, b3, b4, rt, ft, mo⟩
  intro E hE
  apply hE
  intro E hE
  apply hE
  rcases ixs x (n := n) (by omega) with ⟨v, hv, rfl⟩ | hx
  · refine reqV_ok hv o1 ⟨in60 (by omega), sp_atomsUpTo o1 o2 (fun r hr => ⟨v01, ?_⟩)⟩
    rw [cl31 (show v < 2 ^ 31 by omega)]
    intro E K15 K24 h15 h24 hE
    apply hE
    refine isV_ok hv o1 (go11 (gone (h15 _ _ _ _ _ _ ?_)))
    refine sp_workOut ok b3 b4 (RT_relT o1 o2 rt ft) (fun gnd1 gre1 gse1 glv1 gal1 w1 => ?_)
    have key := dn (P := fun a => ∀ s, (∀ i, ti s i = true ↔ ∃ b, b < a ∧ (fun b i => ¬ L < gal1 b ∧ ti (gse1 v) b = true ∧ b = i) b i) → K24 s (nI a) 0 gnd1 gre1 gse1 glv1 gal1) k (by
      intro s hs
      apply h24
      refine hd_eq ?_
      refine tail0 (ti_iff (fun i _ => ?_)) (stay _ _ _ _ _ _ _)
      rw [ti_and, Bool.and_eq_true, hr, hs]
      constructor
      · rintro ⟨q, q2⟩
        obtain ⟨u, h1, h2⟩ := (ok.2.2.2.2.2.2.1 v hv i).mp q
        have hu : u < n := rch_lt (stepB_lt ok.2.2.2.1 ok.2.2.2.2.1) hv h1
        have hik := ok.2.2.1 u hu i h2
        obtain ⟨mm, em, hm⟩ := w1.2.2.2.2 i hik
        refine ⟨i, hik, ?_, ?_, rfl⟩
        · rw [em, alev_iff b1 b2 hik hm]
          exact q2.elim Or.inl (fun q => Or.inr q.2)
        · rw [w1.2.2.1 v hv]; exact q
      · rintro ⟨b, hb, q, q2, rfl⟩
        obtain ⟨mm, em, hm⟩ := w1.2.2.2.2 b hb
        rw [w1.2.2.1 v hv] at q2
        rw [em, alev_iff b1 b2 hb hm] at q
        exact ⟨q2, q.elim Or.inl (fun q => Or.inr ⟨hb, q⟩)⟩) (by
      intro a ha ih s hs
      apply h24
      refine hd_lt ha (by omega) ⟨in32 (by omega), ?_⟩
      rw [cl31 (show a < 2 ^ 31 by omega), cl31 (show v < 2 ^ 31 by omega)]
      refine ⟨fun c => nm_r (or0 s) (nx_i (ih s (g_skip hs (fun i q => q.1 c)))), fun c => ⟨in60 (by omega), nm_e (nx_i (ih _ (gI_add hs (fun i => ?_))))⟩⟩
      rw [ti_and, Bool.and_eq_true, ti_bit (by omega), decide_eq_true_iff]
      constructor
      · rintro ⟨q, q2⟩; exact ⟨c, by rw [← q2]; exact q, q2.symm⟩
      · rintro ⟨_, q, q2⟩; exact ⟨by rw [← q2]; exact q, q2.symm⟩)
    exact key 0 (by omega) 0 gI_0
  · refine reqV_bad hx ⟨rfl, ?_⟩
    intro E K15 K24 h15 h24 hE
    apply hE
    exact isV_bad hx (go01 (gzer (tail1 (by decide) (stay _ _ _ _ _ _ _))))
theorem li_11 (xs : Nat → Int32) (x4 : Int32) {mk : Int32} {nv : Int32} {na : Int32} {fbi : Nat → Int32} {fab : Nat → Int32} {fhd : Nat → Int32} {fin : Nat → Int64} {fjo : Nat → Int64} {fnu : Nat → Int32} {fre : Nat → Int64} {fse : Nat → Int32} {kv : Nat → NV} {fvf : Nat → Int32} {faf : Nat → Int32} {fla : Nat → Int64} {xth : Int32} {xnv : Int32} {xna : Int32} {xtl : Int32} {xmk : Int32} {gbi : Nat → Int32} {gab : Nat → Int32} {ghv : Nat → Int32} {gic : Nat → Int32} {gbe : Nat → Int32} {gmt : Nat → Int32} {gmv : Nat → Int32} {gma : Nat → Int32} {gnd : Nat → Int32} {gre : Nat → Int64} {gse : Nat → Int32} {glv : Nat → Int32} {gal : Nat → Int32} {gds : Nat → Int32} {gno : Nat → Int32} {gna : Nat → Int32} {gp3 : Nat → Int64} (hI : lawI mk nv na fbi fab fhd fin fjo fnu fre fse kv fvf faf fla xth xnv xna xtl xmk gbi gab ghv gic gbe gmt gmv gma gnd gre gse glv gal gds gno gna gp3) : T_law_11 xs x4 mk nv na fbi fab fhd fin fjo fnu fre fse kv fvf faf fla xth xnv xna xtl xmk gbi gab ghv gic gbe gmt gmv gma gnd gre gse glv gal gds gno gna gp3 lawI := by
  obtain ⟨n, k, t, m, bi, ab, th, tic, tbe, mt, mv, ma, e1, e2, e3, e4, e5, e6, e7, ok, b1, b2, b3, b4, rt, ft, mo⟩ := hI
  subst e1 e2 e3 e4 e5 e6 e7
  have o1 := ok.1
  have o2 := ok.2.1
  unfold T_law_11
  generalize xs (x4 + 1).toNatClampNeg = x
  have stay : ∀ xth gnd gre gse glv gal gp3, lawI (nI m) (nI n) (nI k) fbi fab fhd fin fjo fnu fre fse kv fvf faf fla xth (nI n) (nI k) (nI t) (nI m) gbi gab ghv gic gbe gmt gmv gma gnd gre gse glv gal gds gno gna gp3 := fun _ _ _ _ _ _ _ => ⟨n, k, t, m, bi, ab, th, tic, tbe, mt, mv, ma, rfl, rfl, rfl, rfl, rfl, rfl, rfl, ok, b1, b2, b3, b4, rt, ft, mo⟩
  intro E hE
  apply hE
  intro E hE
  apply hE
  rcases ixs x (n := n) (by omega) with ⟨v, hv, rfl⟩ | hx
  · refine reqV_ok hv o1 ⟨in60 (by omega), ?_⟩
    obtain ⟨nu, hnu⟩ := ok_nu ok
    refine sp_nodesAmong o1 (fun v hv => ⟨(hnu v hv).1, by have := isNum_le (hnu v hv).2; omega⟩) (fun r hr => ⟨v01, ?_⟩)
    rw [cl31 (show v < 2 ^ 31 by omega)] at hr
    intro E K hK hE
    apply hE
    refine isV_ok hv o1 (go11 (gone (hK _ _ _ _ _ _ ?_)))
    refine sp_workOut ok b3 b4 (RT_relT o1 o2 rt ft) (fun _ gre1 gse1 _ _ w1 => ⟨in60 (by omega), ?_⟩)
    rw [cl31 (show v < 2 ^ 31 by omega)]
    refine tail0L (tl_iff (fun i hi => ?_)) (stay _ _ _ _ _ _ _)
    rw [hr, w1.2.1 v hv i hi]
    constructor
    · rintro ⟨u, h1, h2, h3⟩
      exact ⟨u, h1, h2, by rw [(hnu u h1).1, h3]⟩
    · rintro ⟨u, h1, h2, h3⟩
      rw [(hnu u h1).1, nI_eq (by have := isNum_le (hnu u h1).2; omega) (by omega)] at h3
      exact ⟨u, h1, h2, h3⟩
  · refine reqV_bad hx ⟨rfl, ?_⟩
    intro E K hK hE
    apply hE
    exact isV_bad hx (go01 (gzer (tail1 (by decide) (stay _ _ _ _ _ _ _))))
/-- the answer of 'of' -/
def ofV (n : Nat) (bi : Nat → Nat) (fnu : Nat → Int32) (fre : Nat → Int64) (v : Nat) (q val : Int32) : Prop :=
  (q = 0 → val = fnu v) ∧ (q = 1 → ∀ r, isLR fre v r → val = nI r) ∧ (q = 2 → ∀ m, isLev n fre bi v m → val = nI m) ∧ (q = 3 → val = nI (bi v)) ∧ (q = 4 → ∀ f : Nat → Bool, (∀ w, w < n → (f w = true ↔ fnu w = fnu v)) → val = nI (cn f n)) ∧ (¬ q = 0 → ¬ q = 1 → ¬ q = 2 → ¬ q = 3 → ¬ q = 4 → val = -1)
theorem li_12 (xs : Nat → Int32) (x4 : Int32) {mk : Int32} {nv : Int32} {na : Int32} {fbi : Nat → Int32} {fab : Nat → Int32} {fhd : Nat → Int32} {fin : Nat → Int64} {fjo : Nat → Int64} {fnu : Nat → Int32} {fre : Nat → Int64} {fse : Nat → Int32} {kv : Nat → NV} {fvf : Nat → Int32} {faf : Nat → Int32} {fla : Nat → Int64} {xth : Int32} {xnv : Int32} {xna : Int32} {xtl : Int32} {xmk : Int32} {gbi : Nat → Int32} {gab : Nat → Int32} {ghv : Nat → Int32} {gic : Nat → Int32} {gbe : Nat → Int32} {gmt : Nat → Int32} {gmv : Nat → Int32} {gma : Nat → Int32} {gnd : Nat → Int32} {gre : Nat → Int64} {gse : Nat → Int32} {glv : Nat → Int32} {gal : Nat → Int32} {gds : Nat → Int32} {gno : Nat → Int32} {gna : Nat → Int32} {gp3 : Nat → Int64} (hI : lawI mk nv na fbi fab fhd fin fjo fnu fre fse kv fvf faf fla xth xnv xna xtl xmk gbi gab ghv gic gbe gmt gmv gma gnd gre gse glv gal gds gno gna gp3) : T_law_12 xs x4 mk nv na fbi fab fhd fin fjo fnu fre fse kv fvf faf fla xth xnv xna xtl xmk gbi gab ghv gic gbe gmt gmv gma gnd gre gse glv gal gds gno gna gp3 lawI := by
  obtain ⟨n, k, t, m, bi, ab, th, tic, tbe, mt, mv, ma, e1, e2, e3, e4, e5, e6, e7, ok, b1, b2, b3, b4, rt, ft, mo⟩ := hI
  subst e1 e2 e3 e4 e5 e6 e7
  have o1 := ok.1
  have o2 := ok.2.1
  unfold T_law_12
  generalize xs (x4 + 1).toNatClampNeg = x
  generalize xs (x4 + 2).toNatClampNeg = q
  have stay : ∀ xth gnd gre gse glv gal gp3, lawI (nI m) (nI n) (nI k) fbi fab fhd fin fjo fnu fre fse kv fvf faf fla xth (nI n) (nI k) (nI t) (nI m) gbi gab ghv gic gbe gmt gmv gma gnd gre gse glv gal gds gno gna gp3 := fun _ _ _ _ _ _ _ => ⟨n, k, t, m, bi, ab, th, tic, tbe, mt, mv, ma, rfl, rfl, rfl, rfl, rfl, rfl, rfl, ok, b1, b2, b3, b4, rt, ft, mo⟩
  intro E hE
  apply hE
  intro E hE
  apply hE
  rcases ixs x (n := n) (by omega) with ⟨v, hv, rfl⟩ | hx
  · refine reqV_ok hv o1 ?_
    have cv := cl31 (show v < 2 ^ 31 by omega)
    have cnf : ∀ f g : Nat → Bool, (∀ w, w < n → (f w = true ↔ fnu w = fnu v)) → (∀ w, w < n → (g w = true ↔ fnu w = fnu v)) → cn f n = cn g n := by
      intro f g hf hg
      apply cn_congr
      intro w hw
      have a1 := hf w hw
      have a2 := hg w hw
      cases c1 : f w <;> cases c2 : g w <;> simp_all
    have rest : ∀ val, ofV n bi fnu fre v q val → S_X4_of (nI v) q xth (nI n) (nI k) gbi gab ghv gic gbe gnd gre gse glv gal (fun r3 xth_4 gnd_5 gre_6 gse_7 glv_8 gal_9 => S_X4_thrown xth_4 (fun r10 => (r10 = 0 → ((¬ (0 : Int32) = 0 → (lawI (nI m) (nI n) (nI k) fbi fab fhd fin fjo fnu fre fse kv fvf faf fla xth_4 (nI n) (nI k) (nI t) (nI m) gbi gab ghv gic gbe gmt gmv gma gnd_5 gre_6 gse_7 glv_8 gal_9 gds gno gna (vp_updL gp3 (0 : Int32).toNatClampNeg val.toInt64))) ∧ ((0 : Int32) = 0 → (vp_in 0 1 ∧ (((lg_cmp ((vp_updL gp3 (0 : Int32).toNatClampNeg val.toInt64) (0 : Int32).toNatClampNeg) (r3.toInt64)) = 0 → (lawI (nI m) (nI n) (nI k) fbi fab fhd fin fjo fnu fre fse kv fvf faf fla xth_4 (nI n) (nI k) (nI t) (nI m) gbi gab ghv gic gbe gmt gmv gma gnd_5 gre_6 gse_7 glv_8 gal_9 gds gno gna (vp_updL gp3 (0 : Int32).toNatClampNeg val.toInt64))) ∧ (¬ (lg_cmp ((vp_updL gp3 (0 : Int32).toNatClampNeg val.toInt64) (0 : Int32).toNatClampNeg) (r3.toInt64)) = 0 → (False))))))) ∧ (¬ r10 = 0 → (False)))) := by
      intro val hval
      obtain ⟨g0, g1, g2, g3, g4, g5⟩ := hval
      intro E K15 K24 h15 h24 hE
      apply hE
      refine isV_ok hv o1 (go11 (gone (h15 _ _ _ _ _ _ ?_)))
      refine sp_workOut ok b3 b4 (RT_relT o1 o2 rt ft) (fun gnd1 gre1 gse1 glv1 gal1 w1 => ?_)
      have key := dn (P := fun u => K24 (nI (cn (fun w => decide (fnu w = fnu v)) u)) (nI u) 0 gnd1 gre1 gse1 glv1 gal1) n (by
        apply h24
        refine hd_eq ?_
        rw [cv]
        refine ⟨fun c => ⟨in60 (by omega), ?_⟩, fun c => ?_, fun c => ⟨in60 (by omega), ?_⟩, fun c => ⟨in60 (by omega), ?_⟩, fun c => ?_, fun c0 c1 c2 c3 c4 => ?_⟩
        · exact tail0 (by rw [g0 c, w1.1 v hv]) (stay _ _ _ _ _ _ _)
        · obtain ⟨r, hr⟩ := lr_ex (ok_self ok hv)
          exact sp_ring ok w1 hv hr (tail0 (g1 c r hr) (stay _ _ _ _ _ _ _))
        · obtain ⟨mm, em, hm⟩ := w1.2.2.2.1 v hv
          exact tail0 (by rw [g2 c mm hm, em]) (stay _ _ _ _ _ _ _)
        · exact tail0 (by rw [g3 c, (b3 v hv).1]) (stay _ _ _ _ _ _ _)
        · exact tail0 (g4 c _ (fun w _ => decide_eq_true_iff)) (stay _ _ _ _ _ _ _)
        · exact tail0 (g5 c0 c1 c2 c3 c4) (stay _ _ _ _ _ _ _)) (by
        intro u hu ih
        apply h24
        refine hd_lt hu (by omega) ⟨in60 (by omega), in60 (by omega), ?_⟩
        rw [cl31 (show u < 2 ^ 31 by omega), cv, w1.1 u hu, w1.1 v hv]
        refine ⟨fun c => ?_, fun c => ?_⟩
        · rw [cn_f (by rw [decide_eq_true_iff]; exact c)] at ih
          exact nm_r (nI_add _ 0) (nx_i ih)
        · rw [cn_t (by rw [decide_eq_true_iff]; exact c)] at ih
          exact nm_r (nI_1 _) (nx_i ih))
      exact key 0 (by omega)
    refine ⟨fun c => ⟨in60 (by omega), v01, rest _ ?_⟩, fun c => ?_, fun c => ?_, fun c => ⟨in60 (by omega), v01, rest _ ?_⟩, fun c => ⟨in60 (by omega), ?_⟩, fun c0 c1 c2 c3 c4 => ⟨v01, rest _ ?_⟩⟩
    · subst c
      rw [cv]
      exact ⟨fun _ => rfl, fun c => absurd c (by decide), fun c => absurd c (by decide), fun c => absurd c (by decide), fun c => absurd c (by decide), fun c => absurd rfl c⟩
    · subst c
      obtain ⟨r, hr⟩ := lr_ex (ok_self ok hv)
      refine sp_leastOfRing (by omega) hr ⟨v01, rest _ ?_⟩
      exact ⟨fun c => absurd c (by decide), fun _ r' hr' => by rw [isLR_uniq hr hr'], fun c => absurd c (by decide), fun c => absurd c (by decide), fun c => absurd c (by decide), fun _ c => absurd rfl c⟩
    · subst c
      refine sp_levelOf o1 hv b1 (ok_self ok hv) (fun mm hm => ⟨v01, rest _ ?_⟩)
      exact ⟨fun c => absurd c (by decide), fun c => absurd c (by decide), fun _ r' hr' => by rw [isMin_uniq hm hr'], fun c => absurd c (by decide), fun c => absurd c (by decide), fun _ _ c => absurd rfl c⟩
    · subst c
      rw [cv, (b1 v hv).1]
      exact ⟨fun c => absurd c (by decide), fun c => absurd c (by decide), fun c => absurd c (by decide), fun _ => rfl, fun c => absurd c (by decide), fun _ _ _ c => absurd rfl c⟩
    · subst c
      rw [cv]
      refine sp_membersOf o1 (f := fun w => decide (fnu w = fnu v)) (fun w _ => decide_eq_true_iff) ⟨v01, rest _ ?_⟩
      exact ⟨fun c => absurd c (by decide), fun c => absurd c (by decide), fun c => absurd c (by decide), fun c => absurd c (by decide), fun _ f hf => by rw [cnf _ f (fun w _ => decide_eq_true_iff) hf], fun _ _ _ _ c => absurd rfl c⟩
    · exact ⟨fun c => absurd c c0, fun c => absurd c c1, fun c => absurd c c2, fun c => absurd c c3, fun c => absurd c c4, fun _ _ _ _ _ => rfl⟩
  · refine reqV_bad hx ⟨rfl, ?_⟩
    intro E K15 K24 h15 h24 hE
    apply hE
    exact isV_bad hx (go01 (gzer (tail1 (by decide) (stay _ _ _ _ _ _ _))))
/-- the answer of 'ofAtom' -/
def oaV (n : Nat) (bi ab : Nat → Nat) (fse : Nat → Int32) (a : Nat) (q val : Int32) : Prop :=
  (q = 0 → ∀ m, isALev n fse bi ab a m → val = nI m) ∧ (q = 1 → val = nI (ab a)) ∧ (q = 2 → val = nI (cn (fun v => ti (fse v) a) n)) ∧ (¬ q = 0 → ¬ q = 1 → ¬ q = 2 → val = -1)
theorem li_13 (xs : Nat → Int32) (x4 : Int32) {mk : Int32} {nv : Int32} {na : Int32} {fbi : Nat → Int32} {fab : Nat → Int32} {fhd : Nat → Int32} {fin : Nat → Int64} {fjo : Nat → Int64} {fnu : Nat → Int32} {fre : Nat → Int64} {fse : Nat → Int32} {kv : Nat → NV} {fvf : Nat → Int32} {faf : Nat → Int32} {fla : Nat → Int64} {xth : Int32} {xnv : Int32} {xna : Int32} {xtl : Int32} {xmk : Int32} {gbi : Nat → Int32} {gab : Nat → Int32} {ghv : Nat → Int32} {gic : Nat → Int32} {gbe : Nat → Int32} {gmt : Nat → Int32} {gmv : Nat → Int32} {gma : Nat → Int32} {gnd : Nat → Int32} {gre : Nat → Int64} {gse : Nat → Int32} {glv : Nat → Int32} {gal : Nat → Int32} {gds : Nat → Int32} {gno : Nat → Int32} {gna : Nat → Int32} {gp3 : Nat → Int64} (hI : lawI mk nv na fbi fab fhd fin fjo fnu fre fse kv fvf faf fla xth xnv xna xtl xmk gbi gab ghv gic gbe gmt gmv gma gnd gre gse glv gal gds gno gna gp3) : T_law_13 xs x4 mk nv na fbi fab fhd fin fjo fnu fre fse kv fvf faf fla xth xnv xna xtl xmk gbi gab ghv gic gbe gmt gmv gma gnd gre gse glv gal gds gno gna gp3 lawI := by
  obtain ⟨n, k, t, m, bi, ab, th, tic, tbe, mt, mv, ma, e1, e2, e3, e4, e5, e6, e7, ok, b1, b2, b3, b4, rt, ft, mo⟩ := hI
  subst e1 e2 e3 e4 e5 e6 e7
  have o1 := ok.1
  have o2 := ok.2.1
  unfold T_law_13
  generalize xs (x4 + 1).toNatClampNeg = x
  generalize xs (x4 + 2).toNatClampNeg = q
  have stay : ∀ xth gnd gre gse glv gal gp3, lawI (nI m) (nI n) (nI k) fbi fab fhd fin fjo fnu fre fse kv fvf faf fla xth (nI n) (nI k) (nI t) (nI m) gbi gab ghv gic gbe gmt gmv gma gnd gre gse glv gal gds gno gna gp3 := fun _ _ _ _ _ _ _ => ⟨n, k, t, m, bi, ab, th, tic, tbe, mt, mv, ma, rfl, rfl, rfl, rfl, rfl, rfl, rfl, ok, b1, b2, b3, b4, rt, ft, mo⟩
  intro E hE
  apply hE
  intro E hE
  apply hE
  rcases ixs x (n := k) (by omega) with ⟨a, ha, rfl⟩ | hx
  · refine reqA_ok ha o2 ?_
    have ca := cl31 (show a < 2 ^ 31 by omega)
    have rest : ∀ val, oaV n bi ab fse a q val → S_X4_ofAtom (nI a) q xth (nI n) (nI k) gbi gab ghv gic gbe gnd gre gse glv gal (fun r3 xth_4 gnd_5 gre_6 gse_7 glv_8 gal_9 => S_X4_thrown xth_4 (fun r10 => (r10 = 0 → ((¬ (0 : Int32) = 0 → (lawI (nI m) (nI n) (nI k) fbi fab fhd fin fjo fnu fre fse kv fvf faf fla xth_4 (nI n) (nI k) (nI t) (nI m) gbi gab ghv gic gbe gmt gmv gma gnd_5 gre_6 gse_7 glv_8 gal_9 gds gno gna (vp_updL gp3 (0 : Int32).toNatClampNeg val.toInt64))) ∧ ((0 : Int32) = 0 → (vp_in 0 1 ∧ (((lg_cmp ((vp_updL gp3 (0 : Int32).toNatClampNeg val.toInt64) (0 : Int32).toNatClampNeg) (r3.toInt64)) = 0 → (lawI (nI m) (nI n) (nI k) fbi fab fhd fin fjo fnu fre fse kv fvf faf fla xth_4 (nI n) (nI k) (nI t) (nI m) gbi gab ghv gic gbe gmt gmv gma gnd_5 gre_6 gse_7 glv_8 gal_9 gds gno gna (vp_updL gp3 (0 : Int32).toNatClampNeg val.toInt64))) ∧ (¬ (lg_cmp ((vp_updL gp3 (0 : Int32).toNatClampNeg val.toInt64) (0 : Int32).toNatClampNeg) (r3.toInt64)) = 0 → (False))))))) ∧ (¬ r10 = 0 → (False)))) := by
      intro val hval
      obtain ⟨g0, g1, g2, g3⟩ := hval
      intro E K15 K24 h15 h24 hE
      apply hE
      refine isA_ok ha o2 (go11 (gone (h15 _ _ _ _ _ _ ?_)))
      refine sp_workOut ok b3 b4 (RT_relT o1 o2 rt ft) (fun gnd1 gre1 gse1 glv1 gal1 w1 => ?_)
      have key := dn (P := fun u => K24 (nI (cn (fun w => ti (fse w) a) u)) (nI u) 0 gnd1 gre1 gse1 glv1 gal1) n (by
        apply h24
        refine hd_eq ?_
        rw [ca]
        refine ⟨fun c0 => ⟨fun c1 => ⟨fun c2 => ?_, fun c => ?_⟩, fun c => ⟨in32 (by omega), ?_⟩⟩, fun c => ⟨in32 (by omega), ?_⟩⟩
        · exact tail0 (g3 c0 c1 c2) (stay _ _ _ _ _ _ _)
        · exact tail0 (g2 c) (stay _ _ _ _ _ _ _)
        · exact tail0 (by rw [g1 c, (b4 a ha).1]) (stay _ _ _ _ _ _ _)
        · obtain ⟨mm, em, hm⟩ := w1.2.2.2.2 a ha
          exact tail0 (by rw [g0 c mm hm, em]) (stay _ _ _ _ _ _ _)) (by
        intro u hu ih
        apply h24
        refine hd_lt hu (by omega) ⟨in60 (by omega), ?_⟩
        rw [cl31 (show u < 2 ^ 31 by omega), w1.2.2.1 u hu, ti_sar _ (by omega)]
        have e : (if ti (fse u) a then (1 : Int32) else 0) = nI (if ti (fse u) a then 1 else 0) := by cases ti (fse u) a <;> rfl
        rw [e]
        exact nm_r (nI_add _ _) (nx_i ih))
      exact key 0 (by omega)
    refine ⟨fun c => ?_, fun c => ⟨in32 (by omega), v01, rest _ ?_⟩, fun c => ?_, fun c0 c1 c2 => ⟨v01, rest _ ?_⟩⟩
    · subst c
      refine sp_levelOfAtom o1 o2 ha b1 b2 (fun mm hm => ⟨v01, rest _ ?_⟩)
      exact ⟨fun _ r' hr' => by rw [isMin_uniq hm hr'], fun c => absurd c (by decide), fun c => absurd c (by decide), fun c => absurd rfl c⟩
    · subst c
      rw [ca, (b2 a ha).1]
      exact ⟨fun c => absurd c (by decide), fun _ => rfl, fun c => absurd c (by decide), fun _ c => absurd rfl c⟩
    · subst c
      refine sp_setsWith o1 (by omega) ⟨v01, rest _ ?_⟩
      exact ⟨fun c => absurd c (by decide), fun c => absurd c (by decide), fun _ => rfl, fun _ _ c => absurd rfl c⟩
    · exact ⟨fun c => absurd c c0, fun c => absurd c c1, fun c => absurd c c2, fun _ _ _ => rfl⟩
  · refine reqA_bad hx ⟨rfl, ?_⟩
    intro E K15 K24 h15 h24 hE
    apply hE
    exact isA_bad hx (go01 (gzer (tail1 (by decide) (stay _ _ _ _ _ _ _))))

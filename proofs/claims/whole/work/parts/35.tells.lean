/-! has, includes, one -/
theorem pc_or (x y : Int32) : pc (x ||| y) = pc x + pc (y &&& (x ^^^ (-1))) := by
  unfold pc
  have key : ∀ n, n ≤ 32 → cn (fun i => ti (x ||| y) i) n = cn (fun i => ti x i) n + cn (fun i => ti (y &&& (x ^^^ (-1))) i) n := by
    intro n
    induction n with
    | zero => intro _; rfl
    | succ n ih =>
      intro hn
      have e := ih (by omega)
      rw [cn_s, cn_s, cn_s, e, ti_or, ti_and, ti_not _ (by omega)]
      cases ti x n <;> cases ti y n <;> simp <;> omega
  exact key 32 (Nat.le_refl _)
theorem sm_spSe {N v : Nat} {ma : Int32} {fre : Nat → Int64} {fse : Nat → Int32} : ∀ n, n ≤ N → sm (fun u => pc (spSe N v ma fre fse u)) n = sm (fun u => pc (fse u)) n + spCn v ma fre fse n := by
  intro n
  induction n with
  | zero => intro _; rfl
  | succ n ih =>
    intro hn
    have e := ih (by omega)
    show sm (fun u => pc (spSe N v ma fre fse u)) n + pc (spSe N v ma fre fse n) = sm (fun u => pc (fse u)) n + pc (fse n) + (spCn v ma fre fse n + (if tl (fre n) v then pc (ma &&& (fse n ^^^ (-1))) else 0))
    rw [e]
    unfold spSe
    by_cases q : tl (fre n) v = true
    · rw [if_pos ⟨by omega, q⟩, if_pos q, pc_or]; omega
    · rw [if_neg (fun c => q c.2), if_neg q]; omega
theorem sm_seAdd {n v w : Nat} {fre : Nat → Int64} {fse : Nat → Int32} : sm (fun u => pc (seAdd n v w fre fse u)) n = sm (fun u => pc (fse u)) n + cnAdd n v w fre fse := by
  unfold seAdd cnAdd
  by_cases q : tl (fre v) w = true
  · rw [if_pos q, if_pos q]; rfl
  · rw [if_neg q, if_neg q]; exact sm_spSe n (Nat.le_refl n)
theorem fitC_has {n v a : Nat} (hn : n ≤ 60) (hv : v < n) (ha : a < 32) {th tic tbe th' : Nat → Nat} {fhd : Nat → Int32} {fin fjo : Nat → Int64} (h : fitC n th tic tbe fhd fin fjo) (hp : ∀ i, 1 ≤ th' i ↔ 1 ≤ th i ∨ i = 32 * v + a) {y : Int32} (hy : ∀ i, ti y i = decide (i = a)) : fitC n th' tic tbe (upd fhd v (fhd v ||| y)) fin fjo := by
  obtain ⟨h1, h2, h3⟩ := h
  refine ⟨fun u b hu hb => ?_, h2, h3⟩
  rw [hp, h1 u b hu hb, ti_upd]
  by_cases e : u = v
  · subst e
    rw [if_pos rfl, ti_or, Bool.or_eq_true, hy, decide_eq_true_iff]
    constructor
    · rintro (q | q)
      · exact ⟨q.1, Or.inl q.2⟩
      · exact ⟨hv, Or.inr (by omega)⟩
    · rintro ⟨q, q2 | q2⟩
      · exact Or.inl ⟨q, q2⟩
      · exact Or.inr (by omega)
  · rw [if_neg e]
    exact ⟨fun q => q.elim id (fun q => by omega), Or.inl⟩
theorem fitC_inc {n v w : Nat} (hn : n ≤ 60) (hv : v < n) (hw : w < 60) {th tic tbe tic' : Nat → Nat} {fhd : Nat → Int32} {fin fjo : Nat → Int64} (h : fitC n th tic tbe fhd fin fjo) (hp : ∀ i, 1 ≤ tic' i ↔ 1 ≤ tic i ∨ i = 60 * v + w) {y : Int64} (hy : ∀ i, tl y i = decide (i = w)) : fitC n th tic' tbe fhd (vp_updL fin v (fin v ||| y)) fjo := by
  obtain ⟨h1, h2, h3⟩ := h
  refine ⟨h1, fun u b hu hb => ?_, h3⟩
  rw [hp, h2 u b hu hb, tl_upd]
  by_cases e : u = v
  · subst e
    rw [if_pos rfl, tl_or, Bool.or_eq_true, hy, decide_eq_true_iff]
    constructor
    · rintro (q | q)
      · exact ⟨q.1, Or.inl q.2⟩
      · exact ⟨hv, Or.inr (by omega)⟩
    · rintro ⟨q, q2 | q2⟩
      · exact Or.inl ⟨q, q2⟩
      · exact Or.inr (by omega)
  · rw [if_neg e]
    exact ⟨fun q => q.elim id (fun q => by omega), Or.inl⟩
theorem joAdd_bit {v w : Nat} (hne : v ≠ w) {fjo : Nat → Int64} {yw yv : Int64} (hyw : ∀ i, tl yw i = decide (i = w)) (hyv : ∀ i, tl yv i = decide (i = v)) (u b : Nat) : tl (joAdd v w yw yv fjo u) b = true ↔ tl (fjo u) b = true ∨ (u = v ∧ b = w) ∨ (u = w ∧ b = v) := by
  unfold joAdd
  rw [tl_upd]
  by_cases e : u = w
  · subst e
    have e2 : ¬ u = v := fun e => hne e.symm
    rw [if_pos rfl, tl_or, Bool.or_eq_true, tl_upd, if_neg e2, hyv, decide_eq_true_iff]
    simp [e2]
  · rw [if_neg e, tl_upd]
    by_cases e2 : u = v
    · subst e2
      rw [if_pos rfl, tl_or, Bool.or_eq_true, hyw, decide_eq_true_iff]
      simp [e]
    · rw [if_neg e2]
      simp [e, e2]
theorem fitC_one {n v w : Nat} (hn : n ≤ 60) (hv : v < n) (hw : w < n) (hne : v ≠ w) {th tic tbe tbe' : Nat → Nat} {fhd : Nat → Int32} {fin fjo : Nat → Int64} (h : fitC n th tic tbe fhd fin fjo) (hp : ∀ i, 1 ≤ tbe' i ↔ 1 ≤ tbe i ∨ i = 60 * v + w ∨ i = 60 * w + v) {yw yv : Int64} (hyw : ∀ i, tl yw i = decide (i = w)) (hyv : ∀ i, tl yv i = decide (i = v)) : fitC n th tic tbe' fhd fin (joAdd v w yw yv fjo) := by
  obtain ⟨h1, h2, h3⟩ := h
  refine ⟨h1, h2, fun u b hu hb => ?_⟩
  rw [hp, h3 u b hu hb, joAdd_bit hne hyw hyv]
  constructor
  · rintro (q | q | q)
    · exact ⟨q.1, Or.inl q.2⟩
    · exact ⟨by omega, Or.inr (Or.inl (by omega))⟩
    · exact ⟨by omega, Or.inr (Or.inr (by omega))⟩
  · rintro ⟨q, q2 | q2 | q2⟩
    · exact Or.inl ⟨q, q2⟩
    · exact Or.inr (Or.inl (by omega))
    · exact Or.inr (Or.inr (by omega))
theorem fitC_sym {n k v w : Nat} {th tic tbe : Nat → Nat} {fhd : Nat → Int32} {fin fjo : Nat → Int64} {fnu : Nat → Int32} {fre : Nat → Int64} {fse : Nat → Int32} (ok : netOK n k fhd fin fjo fnu fre fse) (h : fitC n th tic tbe fhd fin fjo) (hv : v < 60) (hw : w < 60) : 1 ≤ tbe (60 * v + w) ↔ 1 ≤ tbe (60 * w + v) := by
  have o5 := ok.2.2.2.2.1
  rw [h.2.2 v w hv hw, h.2.2 w v hw hv]
  constructor
  · rintro ⟨q, q2⟩; have := o5 v q w q2; exact ⟨this.1, this.2.2⟩
  · rintro ⟨q, q2⟩; have := o5 w q v q2; exact ⟨this.1, this.2.2⟩
theorem sm_gse {n : Nat} {gse fse : Nat → Int32} (h : ∀ v, v < n → gse v = fse v) : sm (fun v => pc (gse v)) n = sm (fun v => pc (fse v)) n := sm_congr (fun u hu => by show pc (gse u) = pc (fse u); rw [h u hu])
theorem li_2 (xs : Nat → Int32) (x4 : Int32) {mk : Int32} {nv : Int32} {na : Int32} {fbi : Nat → Int32} {fab : Nat → Int32} {fhd : Nat → Int32} {fin : Nat → Int64} {fjo : Nat → Int64} {fnu : Nat → Int32} {fre : Nat → Int64} {fse : Nat → Int32} {kv : Nat → NV} {fvf : Nat → Int32} {faf : Nat → Int32} {fla : Nat → Int64} {xth : Int32} {xnv : Int32} {xna : Int32} {xtl : Int32} {xmk : Int32} {gbi : Nat → Int32} {gab : Nat → Int32} {ghv : Nat → Int32} {gic : Nat → Int32} {gbe : Nat → Int32} {gmt : Nat → Int32} {gmv : Nat → Int32} {gma : Nat → Int32} {gnd : Nat → Int32} {gre : Nat → Int64} {gse : Nat → Int32} {glv : Nat → Int32} {gal : Nat → Int32} {gds : Nat → Int32} {gno : Nat → Int32} {gna : Nat → Int32} {gp3 : Nat → Int64} (hI : lawI mk nv na fbi fab fhd fin fjo fnu fre fse kv fvf faf fla xth xnv xna xtl xmk gbi gab ghv gic gbe gmt gmv gma gnd gre gse glv gal gds gno gna gp3) : T_law_2 xs x4 mk nv na fbi fab fhd fin fjo fnu fre fse kv fvf faf fla xth xnv xna xtl xmk gbi gab ghv gic gbe gmt gmv gma gnd gre gse glv gal gds gno gna gp3 lawI := by
  obtain ⟨n, k, t, m, bi, ab, th, tic, tbe, mt, mv, ma, e1, e2, e3, e4, e5, e6, e7, ok, b1, b2, b3, b4, rt, ft, mo⟩ := hI
  subst e1 e2 e3 e4 e5 e6 e7
  have o1 := ok.1
  have o2 := ok.2.1
  unfold T_law_2
  generalize xs (x4 + 1).toNatClampNeg = x
  generalize xs (x4 + 2).toNatClampNeg = z
  have stay : ∀ xth gp3, lawI (nI m) (nI n) (nI k) fbi fab fhd fin fjo fnu fre fse kv fvf faf fla xth (nI n) (nI k) (nI t) (nI m) gbi gab ghv gic gbe gmt gmv gma gnd gre gse glv gal gds gno gna gp3 := fun _ _ => ⟨n, k, t, m, bi, ab, th, tic, tbe, mt, mv, ma, rfl, rfl, rfl, rfl, rfl, rfl, rfl, ok, b1, b2, b3, b4, rt, ft, mo⟩
  intro E hE
  apply hE
  intro E hE
  apply hE
  rcases ixs x (n := n) (by omega) with ⟨v, hv, rfl⟩ | hx
  · refine reqV_ok hv o1 ?_
    rcases ixs z (n := k) (by omega) with ⟨a, ha, rfl⟩ | hz
    · refine reqA_ok ha o2 (sp_tellHas o1 (by omega) (by omega) (fun y hy => ⟨v01, ?_⟩))
      intro E K hK hE
      apply hE
      refine isV_ok hv o1 (gone' (isA_ok ha o2 (gone' (go11 (gone (hK _ _ _ _ _ _ _ _ ?_))))))
      refine sp_workOut ok b3 b4 (RT_relT o1 o2 rt ft) (fun _ _ gse1 _ _ w1 => sp_inSets o1 ?_)
      rw [ix32]
      refine sp_tellH rt (by omega) (fun t' th' ghv' rt' ex hp => ?_)
      have ok' := ok_has ok hv ha hy
      have ft' := fitC_has o1 hv (by omega) ft hp hy
      refine sp_workOut ok' b3 b4 (RT_relT o1 o2 rt' ft') (fun _ _ gse2 _ _ w2 => sp_inSets o1 ?_)
      rw [sm_gse w1.2.2.1, sm_gse w2.2.2.1, sm_spSe n (Nat.le_refl n), pk_sub (by omega), Nat.add_sub_cancel_left]
      exact tail0 rfl ⟨n, k, t', m, bi, ab, th', tic, tbe, mt, mv, ma, rfl, rfl, rfl, rfl, rfl, rfl, rfl, ok', b1, b2, b3, b4, rt', ft', marks_ext mo (Nat.le_refl _) (Nat.le_refl _) (fun _ _ => rfl) (fun _ _ => rfl) ex⟩
    · refine reqA_bad hz ⟨rfl, ?_⟩
      intro E K hK hE
      apply hE
      exact isV_ok hv o1 (gone' (isA_bad hz (gzer' (go01 (gzer (tail1 (by decide) (stay _ _)))))))
  · refine reqV_bad hx ⟨rfl, ?_⟩
    intro E K hK hE
    apply hE
    exact isV_bad hx (gzer' (go01 (gzer (tail1 (by decide) (stay _ _)))))
theorem li_3 (xs : Nat → Int32) (x4 : Int32) {mk : Int32} {nv : Int32} {na : Int32} {fbi : Nat → Int32} {fab : Nat → Int32} {fhd : Nat → Int32} {fin : Nat → Int64} {fjo : Nat → Int64} {fnu : Nat → Int32} {fre : Nat → Int64} {fse : Nat → Int32} {kv : Nat → NV} {fvf : Nat → Int32} {faf : Nat → Int32} {fla : Nat → Int64} {xth : Int32} {xnv : Int32} {xna : Int32} {xtl : Int32} {xmk : Int32} {gbi : Nat → Int32} {gab : Nat → Int32} {ghv : Nat → Int32} {gic : Nat → Int32} {gbe : Nat → Int32} {gmt : Nat → Int32} {gmv : Nat → Int32} {gma : Nat → Int32} {gnd : Nat → Int32} {gre : Nat → Int64} {gse : Nat → Int32} {glv : Nat → Int32} {gal : Nat → Int32} {gds : Nat → Int32} {gno : Nat → Int32} {gna : Nat → Int32} {gp3 : Nat → Int64} (hI : lawI mk nv na fbi fab fhd fin fjo fnu fre fse kv fvf faf fla xth xnv xna xtl xmk gbi gab ghv gic gbe gmt gmv gma gnd gre gse glv gal gds gno gna gp3) : T_law_3 xs x4 mk nv na fbi fab fhd fin fjo fnu fre fse kv fvf faf fla xth xnv xna xtl xmk gbi gab ghv gic gbe gmt gmv gma gnd gre gse glv gal gds gno gna gp3 lawI := by
  obtain ⟨n, k, t, m, bi, ab, th, tic, tbe, mt, mv, ma, e1, e2, e3, e4, e5, e6, e7, ok, b1, b2, b3, b4, rt, ft, mo⟩ := hI
  subst e1 e2 e3 e4 e5 e6 e7
  have o1 := ok.1
  have o2 := ok.2.1
  unfold T_law_3
  generalize xs (x4 + 1).toNatClampNeg = x
  generalize xs (x4 + 2).toNatClampNeg = z
  have stay : ∀ xth gp3, lawI (nI m) (nI n) (nI k) fbi fab fhd fin fjo fnu fre fse kv fvf faf fla xth (nI n) (nI k) (nI t) (nI m) gbi gab ghv gic gbe gmt gmv gma gnd gre gse glv gal gds gno gna gp3 := fun _ _ => ⟨n, k, t, m, bi, ab, th, tic, tbe, mt, mv, ma, rfl, rfl, rfl, rfl, rfl, rfl, rfl, ok, b1, b2, b3, b4, rt, ft, mo⟩
  intro E hE
  apply hE
  intro E hE
  apply hE
  rcases ixs x (n := n) (by omega) with ⟨v, hv, rfl⟩ | hx
  · refine reqV_ok hv o1 ?_
    rcases ixs z (n := n) (by omega) with ⟨w, hw, rfl⟩ | hz
    · refine reqV_ok hw o1 (sp_tellIncludes o1 (by omega) (by omega) (fun y hy => ⟨v01, ?_⟩))
      intro E K hK hE
      apply hE
      refine isV_ok hv o1 (gone' (isV_ok hw o1 (gone' (go11 (gone (hK _ _ _ _ _ _ _ _ ?_))))))
      refine sp_workOut ok b3 b4 (RT_relT o1 o2 rt ft) (fun _ _ gse1 _ _ w1 => sp_inSets o1 ?_)
      rw [ix60]
      refine sp_tellI rt (by omega) (fun t' tic' gic' rt' ex hp => ?_)
      have ok' := ok_inc ok hv hw hy
      have ft' := fitC_inc o1 hv (by omega) ft hp hy
      refine sp_workOut ok' b3 b4 (RT_relT o1 o2 rt' ft') (fun _ _ gse2 _ _ w2 => sp_inSets o1 ?_)
      rw [sm_gse w1.2.2.1, sm_gse w2.2.2.1, sm_seAdd, pk_sub (by omega), Nat.add_sub_cancel_left]
      exact tail0 rfl ⟨n, k, t', m, bi, ab, th, tic', tbe, mt, mv, ma, rfl, rfl, rfl, rfl, rfl, rfl, rfl, ok', b1, b2, b3, b4, rt', ft', marks_ext mo (Nat.le_refl _) (Nat.le_refl _) (fun _ _ => rfl) (fun _ _ => rfl) ex⟩
    · refine reqV_bad hz ⟨rfl, ?_⟩
      intro E K hK hE
      apply hE
      exact isV_ok hv o1 (gone' (isV_bad hz (gzer' (go01 (gzer (tail1 (by decide) (stay _ _)))))))
  · refine reqV_bad hx ⟨rfl, ?_⟩
    intro E K hK hE
    apply hE
    exact isV_bad hx (gzer' (go01 (gzer (tail1 (by decide) (stay _ _)))))
theorem li_4 (xs : Nat → Int32) (x4 : Int32) {mk : Int32} {nv : Int32} {na : Int32} {fbi : Nat → Int32} {fab : Nat → Int32} {fhd : Nat → Int32} {fin : Nat → Int64} {fjo : Nat → Int64} {fnu : Nat → Int32} {fre : Nat → Int64} {fse : Nat → Int32} {kv : Nat → NV} {fvf : Nat → Int32} {faf : Nat → Int32} {fla : Nat → Int64} {xth : Int32} {xnv : Int32} {xna : Int32} {xtl : Int32} {xmk : Int32} {gbi : Nat → Int32} {gab : Nat → Int32} {ghv : Nat → Int32} {gic : Nat → Int32} {gbe : Nat → Int32} {gmt : Nat → Int32} {gmv : Nat → Int32} {gma : Nat → Int32} {gnd : Nat → Int32} {gre : Nat → Int64} {gse : Nat → Int32} {glv : Nat → Int32} {gal : Nat → Int32} {gds : Nat → Int32} {gno : Nat → Int32} {gna : Nat → Int32} {gp3 : Nat → Int64} (hI : lawI mk nv na fbi fab fhd fin fjo fnu fre fse kv fvf faf fla xth xnv xna xtl xmk gbi gab ghv gic gbe gmt gmv gma gnd gre gse glv gal gds gno gna gp3) : T_law_4 xs x4 mk nv na fbi fab fhd fin fjo fnu fre fse kv fvf faf fla xth xnv xna xtl xmk gbi gab ghv gic gbe gmt gmv gma gnd gre gse glv gal gds gno gna gp3 lawI := by
  obtain ⟨n, k, t, m, bi, ab, th, tic, tbe, mt, mv, ma, e1, e2, e3, e4, e5, e6, e7, ok, b1, b2, b3, b4, rt, ft, mo⟩ := hI
  subst e1 e2 e3 e4 e5 e6 e7
  have o1 := ok.1
  have o2 := ok.2.1
  unfold T_law_4
  generalize xs (x4 + 1).toNatClampNeg = x
  generalize xs (x4 + 2).toNatClampNeg = z
  have stay : ∀ xth gnd gre gse glv gal gp3, lawI (nI m) (nI n) (nI k) fbi fab fhd fin fjo fnu fre fse kv fvf faf fla xth (nI n) (nI k) (nI t) (nI m) gbi gab ghv gic gbe gmt gmv gma gnd gre gse glv gal gds gno gna gp3 := fun _ _ _ _ _ _ _ => ⟨n, k, t, m, bi, ab, th, tic, tbe, mt, mv, ma, rfl, rfl, rfl, rfl, rfl, rfl, rfl, ok, b1, b2, b3, b4, rt, ft, mo⟩
  intro E hE
  apply hE
  intro E hE
  apply hE
  rcases ixs x (n := n) (by omega) with ⟨v, hv, rfl⟩ | hx
  · refine reqV_ok hv o1 ?_
    rcases ixs z (n := n) (by omega) with ⟨w, hw, rfl⟩ | hz
    · refine reqV_ok hw o1 (sp_tellOne o1 hv hw (fun hvw => ⟨v01, ?_⟩) (fun hne yw yv hyw hyv => ⟨v01, ?_⟩))
      · intro E K hK hE
        apply hE
        refine isV_ok hv o1 (gone' (isV_ok hw o1 (gone' (go11 (gone (hK _ _ _ _ _ _ _ _ ?_))))))
        refine sp_workOut ok b3 b4 (RT_relT o1 o2 rt ft) (fun _ _ gse1 _ _ w1 => sp_inSets o1 ?_)
        refine sp_tellOneR (by omega) (by omega) rt (fitC_sym ok ft (by omega) (by omega)) (fun _ => ?_) (fun hne => absurd hvw hne)
        refine sp_workOut ok b3 b4 (RT_relT o1 o2 rt ft) (fun _ _ gse2 _ _ w2 => sp_inSets o1 ?_)
        rw [sm_gse w1.2.2.1, sm_gse w2.2.2.1, pk_sub (by omega), Nat.sub_self]
        exact tail0 rfl (stay _ _ _ _ _ _ _)
      · intro E K hK hE
        apply hE
        refine isV_ok hv o1 (gone' (isV_ok hw o1 (gone' (go11 (gone (hK _ _ _ _ _ _ _ _ ?_))))))
        refine sp_workOut ok b3 b4 (RT_relT o1 o2 rt ft) (fun _ _ gse1 _ _ w1 => sp_inSets o1 ?_)
        refine sp_tellOneR (by omega) (by omega) rt (fitC_sym ok ft (by omega) (by omega)) (fun hvw => absurd hvw hne) (fun _ t' tbe' gbe' rt' ex hp => ?_)
        have ok' := ok_one ok hv hw hne hyw hyv
        have ft' := fitC_one o1 hv hw hne ft hp hyw hyv
        refine sp_workOut ok' b3 b4 (RT_relT o1 o2 rt' ft') (fun _ _ gse2 _ _ w2 => sp_inSets o1 ?_)
        rw [sm_gse w1.2.2.1, sm_gse w2.2.2.1, sm_seAdd, sm_seAdd, pk_sub (by omega), Nat.add_assoc, Nat.add_sub_cancel_left]
        exact tail0 rfl ⟨n, k, t', m, bi, ab, th, tic, tbe', mt, mv, ma, rfl, rfl, rfl, rfl, rfl, rfl, rfl, ok', b1, b2, b3, b4, rt', ft', marks_ext mo (Nat.le_refl _) (Nat.le_refl _) (fun _ _ => rfl) (fun _ _ => rfl) ex⟩
    · refine reqV_bad hz ⟨rfl, ?_⟩
      intro E K hK hE
      apply hE
      exact isV_ok hv o1 (gone' (isV_bad hz (gzer' (go01 (gzer (tail1 (by decide) (stay _ _ _ _ _ _ _)))))))
  · refine reqV_bad hx ⟨rfl, ?_⟩
    intro E K hK hE
    apply hE
    exact isV_bad hx (gzer' (go01 (gzer (tail1 (by decide) (stay _ _ _ _ _ _ _)))))

/-! count -/
theorem boolOf (P : Nat → Prop) : ∃ f : Nat → Bool, ∀ v, f v = true ↔ P v := by
  refine ⟨fun v => @decide (P v) (Classical.propDecidable _), fun v => ?_⟩
  constructor
  · intro h; exact @of_decide_eq_true (P v) (Classical.propDecidable _) h
  · intro h; exact @decide_eq_true (P v) (Classical.propDecidable _) h
theorem cn_cut {f : Nat → Bool} {a b : Nat} (hab : a ≤ b) (h : ∀ i, f i = true → i < a) : cn f b = cn f a := by
  obtain ⟨d, rfl⟩ : ∃ d, b = a + d := ⟨b - a, by omega⟩
  have e : cn (fun i => f (a + i)) d = 0 := by
    apply cn_false
    intro i _
    cases q : f (a + i)
    · rfl
    · have := h _ q; omega
  rw [cn_add, e, Nat.add_zero]
theorem sm_s (f : Nat → Nat) (n : Nat) : sm f (n + 1) = sm f n + f n := rfl
theorem sm_cn {g : Nat → Bool} {f : Nat → Nat} : ∀ n, sm (fun v => f v + (if g v then 1 else 0)) n = sm f n + cn g n
  | 0 => rfl
  | n + 1 => by rw [sm_s, sm_cn n, sm_s, cn_s]; omega
/-- facts that stand both ways, counted once -/
theorem sm_half {J : Nat → Nat → Bool} {N : Nat} (hs : ∀ v w, v < N → w < N → J v w = J w v) (hd : ∀ v, v < N → J v v = false) : ∀ n, n ≤ N → sm (fun v => cn (fun w => J v w) n) n = 2 * sm (fun v => cn (fun w => decide (v < w) && J v w) n) n := by
  intro n
  induction n with
  | zero => intro _; rfl
  | succ n ih =>
    intro hn
    have e := ih (by omega)
    have e1 : sm (fun v => cn (fun w => J v w) (n + 1)) n = sm (fun v => cn (fun w => J v w) n) n + cn (fun v => J v n) n := by
      rw [← sm_cn]; rfl
    have e2 : sm (fun v => cn (fun w => decide (v < w) && J v w) (n + 1)) n = sm (fun v => cn (fun w => decide (v < w) && J v w) n) n + cn (fun v => decide (v < n) && J v n) n := by
      rw [← sm_cn]; rfl
    have e3 : cn (fun w => J n w) (n + 1) = cn (fun v => J v n) n := by
      rw [cn_s, hd n (by omega)]
      show _ + 0 = _
      exact cn_congr (fun i hi => hs n i (by omega) (by omega))
    have e4 : cn (fun w => decide (n < w) && J n w) (n + 1) = 0 := by
      apply cn_false
      intro i hi
      rw [decide_eq_false (by omega)]; rfl
    have e5 : cn (fun v => decide (v < n) && J v n) n = cn (fun v => J v n) n := cn_congr (fun i hi => by rw [decide_eq_true hi]; rfl)
    rw [sm_s, sm_s, e1, e2, e5, e]
    show _ + cn (fun w => J n w) (n + 1) = 2 * (_ + cn (fun w => decide (n < w) && J n w) (n + 1))
    rw [e3, e4]
    omega
theorem sp_bitsOfInts {n : Nat} (hn : n ≤ 60) {f : Nat → Int32} {post : Int32 → Prop} (h : post (nI (sm (fun v => pc (f v)) n))) : S_X3_bitsOfInts 60 (nI n) f post := by
  intro E K hK hE
  apply hE
  have key := dn (P := fun u => K (nI (sm (fun v => pc (f v)) u)) (nI u)) n (by
    apply hK
    exact hd_eq h) (by
    intro u hu ih
    apply hK
    refine hd_lt hu (by omega) (hd_lt (n := 60) (by omega) (by decide) ⟨in60 (by omega), ?_⟩)
    rw [cl31 (show u < 2 ^ 31 by omega)]
    exact sp_bitCount _ (nm_r (nI_add _ _) (nx_i ih)))
  exact key 0 (by omega)
theorem sp_bitsOfLongs {n : Nat} (hn : n ≤ 60) {f : Nat → Int64} {post : Int32 → Prop} (h : post (nI (sm (fun v => cn (fun i => tl (f v) i) 64) n))) : S_X3_bitsOfLongs 60 (nI n) f post := by
  intro E K hK hE
  apply hE
  have key := dn (P := fun u => K (nI (sm (fun v => cn (fun i => tl (f v) i) 64) u)) (nI u)) n (by
    apply hK
    exact hd_eq h) (by
    intro u hu ih
    apply hK
    refine hd_lt hu (by omega) (hd_lt (n := 60) (by omega) (by decide) ⟨in60 (by omega), ?_⟩)
    rw [cl31 (show u < 2 ^ 31 by omega)]
    exact sp_bitCountL _ (nm_r (nI_add _ _) (nx_i ih)))
  exact key 0 (by omega)
/-- the answer of 'count' -/
def ctV (n k m : Nat) (fN fR : Nat → Bool) (fhd : Nat → Int32) (fin fjo : Nat → Int64) (fse : Nat → Int32) (q val : Int32) : Prop :=
  (q = 0 → val = nI n) ∧ (q = 1 → val = nI k) ∧ (q = 2 → val = nI (cn fN n)) ∧ (q = 3 → val = nI (cn fR n)) ∧ (q = 4 → val = nI (sm (fun v => cn (fun a => ti (fhd v) a) k) n)) ∧ (q = 5 → val = nI (sm (fun v => cn (fun w => tl (fin v) w) n) n)) ∧ (q = 6 → val = nI (sm (fun v => cn (fun w => decide (v < w) && tl (fjo v) w) n) n)) ∧ (q = 7 → val = nI m) ∧ (q = 8 → val = nI (sm (fun v => pc (fse v)) n)) ∧ (¬ q = 0 → ¬ q = 1 → ¬ q = 2 → ¬ q = 3 → ¬ q = 4 → ¬ q = 5 → ¬ q = 6 → ¬ q = 7 → ¬ q = 8 → val = -1)
theorem sp_countR {n k m : Nat} {bi ab : Nat → Nat} {fhd : Nat → Int32} {fin fjo : Nat → Int64} {fnu : Nat → Int32} {fre : Nat → Int64} {fse : Nat → Int32} {gbi gab ghv gic gbe gnd : Nat → Int32} {gre : Nat → Int64} {gse glv gal : Nat → Int32} {q xth val : Int32} (ok : netOK n k fhd fin fjo fnu fre fse) (hbi : biOK n gbi bi) (hab : biOK k gab ab) (rl : relT n k ghv gic gbe fhd fin fjo) {fN fR : Nat → Bool} (hN : ∀ v, fN v = true ↔ fnu v = nI v) (hR : ∀ v, fR v = true ↔ isLR fre v v) (hval : ctV n k m fN fR fhd fin fjo fse q val) {post : Int32 → Int32 → (Nat → Int32) → (Nat → Int64) → (Nat → Int32) → (Nat → Int32) → (Nat → Int32) → Prop}
    (h : ∀ gnd gre gse glv gal, post val 0 gnd gre gse glv gal) : S_X4_count q xth (nI n) (nI k) (nI m) gbi gab ghv gic gbe gnd gre gse glv gal post := by
  obtain ⟨g0, g1, g2, g3, g4, g5, g6, g7, g8, g9⟩ := hval
  have o1 := ok.1
  have o2 := ok.2.1
  intro E K25 K88 K132 h25 h88 h132 hE
  apply hE
  refine sp_workOut ok hbi hab rl (fun gnd gre gse glv gal w1 => ?_)
  have key := dn (P := fun u => K25 (nI (cn fN u)) (nI (cn fR u)) (nI (sm (fun v => cn (fun a => ti (fhd v) a) k) u)) (nI (sm (fun v => cn (fun w => tl (fin v) w) n) u)) (nI (sm (fun v => cn (fun w => decide (v < w) && tl (fjo v) w) n) u)) (nI u) 0 gnd gre gse glv gal) n (by
    apply h25
    refine hd_eq ⟨fun c => ?_, fun c => ?_, fun c => ?_, fun c => ?_, fun c => ?_, fun c => ?_, fun c => ?_, fun c => ?_, fun c => ?_, fun c0 c1 c2 c3 c4 c5 c6 c7 c8 => ?_⟩
    · rw [← g0 c]; exact h _ _ _ _ _
    · rw [← g1 c]; exact h _ _ _ _ _
    · rw [← g2 c]; exact h _ _ _ _ _
    · rw [← g3 c]; exact h _ _ _ _ _
    · rw [← g4 c]; exact h _ _ _ _ _
    · rw [← g5 c]; exact h _ _ _ _ _
    · rw [← g6 c]; exact h _ _ _ _ _
    · rw [← g7 c]; exact h _ _ _ _ _
    · refine sp_inSets o1 ?_
      rw [sm_gse w1.2.2.1, ← g8 c]; exact h _ _ _ _ _
    · rw [← g9 c0 c1 c2 c3 c4 c5 c6 c7 c8]; exact h _ _ _ _ _) (by
    intro u hu ih
    -- the second inner loop
    have inn2 := dn (P := fun w => K132 (nI (cn fN (u + 1))) (nI (cn fR (u + 1))) (nI (sm (fun v => cn (fun a => ti (fhd v) a) k) (u + 1))) (nI (sm (fun v => cn (fun w => tl (fin v) w) n) u + cn (fun w => tl (fin u) w) w)) (nI (sm (fun v => cn (fun w => decide (v < w) && tl (fjo v) w) n) u + cn (fun w => decide (u < w) && tl (fjo u) w) w)) (nI u) (nI w) 0 gnd gre gse glv gal) n (by
      apply h132
      exact hd_eq (nx_i ih)) (by
      intro w hw ihw
      apply h132
      refine hd_lt hw (by omega) ?_
      rw [ix60, cl31 (show 60 * u + w < 2 ^ 31 by omega)]
      refine ⟨vp_in_nI (by omega) (by decide), ?_⟩
      have r2 := rl.2.1 u w hu hw
      have r3 := rl.2.2 u w hu hw
      have fone : ∀ X : Int32, X = nI (sm (fun v => cn (fun w => tl (fin v) w) n) u + cn (fun w => tl (fin u) w) (w + 1)) →
          ((nI w ≤ nI u → ∀ y : Int32, y = nI (sm (fun v => cn (fun w => decide (v < w) && tl (fjo v) w) n) u + cn (fun w => decide (u < w) && tl (fjo u) w) w) + 0 → ∀ z : Int32, z = nI w + 1 → K132 (nI (cn fN (u + 1))) (nI (cn fR (u + 1))) (nI (sm (fun v => cn (fun a => ti (fhd v) a) k) (u + 1))) X y (nI u) z 0 gnd gre gse glv gal) ∧
          (¬ nI w ≤ nI u → (gbe (60 * u + w) ≤ 0 → ∀ y : Int32, y = nI (sm (fun v => cn (fun w => decide (v < w) && tl (fjo v) w) n) u + cn (fun w => decide (u < w) && tl (fjo u) w) w) + 0 → ∀ z : Int32, z = nI w + 1 → K132 (nI (cn fN (u + 1))) (nI (cn fR (u + 1))) (nI (sm (fun v => cn (fun a => ti (fhd v) a) k) (u + 1))) X y (nI u) z 0 gnd gre gse glv gal) ∧
          (¬ gbe (60 * u + w) ≤ 0 → ∀ y : Int32, y = nI (sm (fun v => cn (fun w => decide (v < w) && tl (fjo v) w) n) u + cn (fun w => decide (u < w) && tl (fjo u) w) w) + 1 → ∀ z : Int32, z = nI w + 1 → K132 (nI (cn fN (u + 1))) (nI (cn fR (u + 1))) (nI (sm (fun v => cn (fun a => ti (fhd v) a) k) (u + 1))) X y (nI u) z 0 gnd gre gse glv gal))) := by
        intro X eX
        rw [eX]
        refine ⟨fun c => ?_, fun c => ⟨fun c2 => ?_, fun c2 => ?_⟩⟩
        · have c' := (nI_leI (by omega) (by omega)).mp c
          rw [cn_f (f := fun w => decide (u < w) && tl (fjo u) w) (by rw [decide_eq_false (by omega)]; simp)] at ihw
          exact nm_r (nI_add _ 0) (nx_i ihw)
        · rw [cn_f (f := fun w => decide (u < w) && tl (fjo u) w) (by rw [Bool.and_eq_true]; intro q; exact absurd c2 (r3.mp q.2))] at ihw
          exact nm_r (nI_add _ 0) (nx_i ihw)
        · have c' : u < w := by
            rcases Nat.lt_or_ge u w with q | q
            · exact q
            · exact absurd (nI_le q (by omega)) c
          rw [cn_t (f := fun w => decide (u < w) && tl (fjo u) w) (by rw [Bool.and_eq_true]; exact ⟨decide_eq_true c', r3.mpr c2⟩)] at ihw
          exact nm_r (nI_1 _) (nx_i ihw)
      refine ⟨fun c => nm_r (nI_add _ 0) (fone _ ?_), fun c => nm_r (nI_1 _) (fone _ ?_)⟩
      · rw [cn_f (f := fun w => tl (fin u) w) (fun q => absurd c (r2.mp q))]; rfl
      · rw [cn_t (f := fun w => tl (fin u) w) (r2.mpr c)]; rfl)
    have inn1 := dn (P := fun a => K88 (nI (cn fN (u + 1))) (nI (cn fR (u + 1))) (nI (sm (fun v => cn (fun a => ti (fhd v) a) k) u + cn (fun a => ti (fhd u) a) a)) (nI (sm (fun v => cn (fun w => tl (fin v) w) n) u)) (nI (sm (fun v => cn (fun w => decide (v < w) && tl (fjo v) w) n) u)) (nI u) (nI a) 0 gnd gre gse glv gal) k (by
      apply h88
      exact hd_eq (inn2 0 (by omega))) (by
      intro a ha iha
      apply h88
      refine hd_lt ha (by omega) ?_
      rw [ix32, cl31 (show 32 * u + a < 2 ^ 31 by omega)]
      refine ⟨vp_in_nI (by omega) (by decide), fun c => ?_, fun c => ?_⟩
      · rw [cn_f (f := fun a => ti (fhd u) a) (fun q => absurd c ((rl.1 u a hu ha).mp q))] at iha
        exact nm_r (nI_add _ 0) (nx_i iha)
      · rw [cn_t (f := fun a => ti (fhd u) a) ((rl.1 u a hu ha).mpr c)] at iha
        exact nm_r (nI_1 _) (nx_i iha))
    have st := inn1 0 (by omega)
    apply h25
    refine hd_lt hu (by omega) ⟨in60 (by omega), ?_⟩
    rw [cl31 (show u < 2 ^ 31 by omega), w1.1 u hu]
    refine ⟨fun c => ?_, fun c => ?_⟩
    · rw [cn_f (fun q => c ((hN u).mp q)), cn_f (fun q => c (lr_num ok hu ((hR u).mp q)))] at st
      exact nm_r (nI_add _ 0) ⟨fun _ => nm_r (nI_add _ 0) st, fun q => absurd q c⟩
    · rw [cn_t ((hN u).mpr c)] at st
      refine nm_r (nI_1 _) ⟨fun q => absurd c q, fun _ => ?_⟩
      obtain ⟨r, hr⟩ := lr_ex (ok_self ok hu)
      have br := hr.1
      refine sp_ring ok w1 hu hr ⟨fun c2 => ?_, fun c2 => ?_⟩
      · rw [cn_f (f := fR) (fun q => c2 (by rw [isLR_uniq hr ((hR u).mp q)]))] at st
        exact nm_r (nI_add _ 0) st
      · rw [nI_eq (by omega) (by omega)] at c2
        subst c2
        rw [cn_t ((hR r).mpr hr)] at st
        exact nm_r (nI_1 _) st)
  exact key 0 (by omega)
theorem li_15 (xs : Nat → Int32) (x4 : Int32) {mk : Int32} {nv : Int32} {na : Int32} {fbi : Nat → Int32} {fab : Nat → Int32} {fhd : Nat → Int32} {fin : Nat → Int64} {fjo : Nat → Int64} {fnu : Nat → Int32} {fre : Nat → Int64} {fse : Nat → Int32} {kv : Nat → NV} {fvf : Nat → Int32} {faf : Nat → Int32} {fla : Nat → Int64} {xth : Int32} {xnv : Int32} {xna : Int32} {xtl : Int32} {xmk : Int32} {gbi : Nat → Int32} {gab : Nat → Int32} {ghv : Nat → Int32} {gic : Nat → Int32} {gbe : Nat → Int32} {gmt : Nat → Int32} {gmv : Nat → Int32} {gma : Nat → Int32} {gnd : Nat → Int32} {gre : Nat → Int64} {gse : Nat → Int32} {glv : Nat → Int32} {gal : Nat → Int32} {gds : Nat → Int32} {gno : Nat → Int32} {gna : Nat → Int32} {gp3 : Nat → Int64} (hI : lawI mk nv na fbi fab fhd fin fjo fnu fre fse kv fvf faf fla xth xnv xna xtl xmk gbi gab ghv gic gbe gmt gmv gma gnd gre gse glv gal gds gno gna gp3) : T_law_15 xs x4 mk nv na fbi fab fhd fin fjo fnu fre fse kv fvf faf fla xth xnv xna xtl xmk gbi gab ghv gic gbe gmt gmv gma gnd gre gse glv gal gds gno gna gp3 lawI := by
  obtain ⟨n, k, t, m, bi, ab, th, tic, tbe, mt, mv, ma, e1, e2, e3, e4, e5, e6, e7, ok, b1, b2, b3, b4, rt, ft, mo⟩ := hI
  subst e1 e2 e3 e4 e5 e6 e7
  have o1 := ok.1
  have o2 := ok.2.1
  unfold T_law_15
  generalize xs (x4 + 1).toNatClampNeg = q
  have stay : ∀ xth gnd gre gse glv gal gp3, lawI (nI m) (nI n) (nI k) fbi fab fhd fin fjo fnu fre fse kv fvf faf fla xth (nI n) (nI k) (nI t) (nI m) gbi gab ghv gic gbe gmt gmv gma gnd gre gse glv gal gds gno gna gp3 := fun _ _ _ _ _ _ _ => ⟨n, k, t, m, bi, ab, th, tic, tbe, mt, mv, ma, rfl, rfl, rfl, rfl, rfl, rfl, rfl, ok, b1, b2, b3, b4, rt, ft, mo⟩
  obtain ⟨fN, hN⟩ := boolOf (fun v => fnu v = nI v)
  obtain ⟨fR, hR⟩ := boolOf (fun v => isLR fre v v)
  obtain ⟨p1, p2, p3, p4, p5, p6, p7, p8⟩ := ok
  have ok : netOK n k fhd fin fjo fnu fre fse := ⟨p1, p2, p3, p4, p5, p6, p7, p8⟩
  have rest : ∀ val, ctV n k m fN fR fhd fin fjo fse q val → S_X4_count q xth (nI n) (nI k) (nI m) gbi gab ghv gic gbe gnd gre gse glv gal (fun r2 xth_3 gnd_4 gre_5 gse_6 glv_7 gal_8 => (val = r2 → (lawI (nI m) (nI n) (nI k) fbi fab fhd fin fjo fnu fre fse kv fvf faf fla xth_3 (nI n) (nI k) (nI t) (nI m) gbi gab ghv gic gbe gmt gmv gma gnd_4 gre_5 gse_6 glv_7 gal_8 gds gno gna gp3)) ∧ (¬ val = r2 → False)) :=
    fun val hval => sp_countR ok b3 b4 (RT_relT o1 o2 rt ft) hN hR hval (fun _ _ _ _ _ => ⟨fun _ => stay _ _ _ _ _ _ _, fun c => c rfl⟩)
  have dd : ∀ {a b : Int32} {P : Prop}, a = b → ¬ a = b → P := fun h c => absurd h c
  intro E hE
  apply hE
  refine ⟨fun c => rest _ ?_, fun c => rest _ ?_, fun c => sp_nodes o1 (fun v _ => hN v) (rest _ ?_), fun c => sp_rings o1 (fun v hv => ok_self ok hv) (fun v _ => hR v) (rest _ ?_), fun c => sp_bitsOfInts o1 (rest _ ?_), fun c => sp_bitsOfLongs o1 (rest _ ?_), fun c => sp_bitsOfLongs o1 (rest _ ?_), fun c => rest _ ?_, fun c => sp_bitsOfInts o1 (rest _ ?_), fun c0 c1 c2 c3 c4 c5 c6 c7 c8 => rest _ ?_⟩
  · subst c
    exact ⟨fun _ => rfl, fun c => absurd c (by decide), fun c => absurd c (by decide), fun c => absurd c (by decide), fun c => absurd c (by decide), fun c => absurd c (by decide), fun c => absurd c (by decide), fun c => absurd c (by decide), fun c => absurd c (by decide), fun c => absurd rfl c⟩
  · subst c
    exact ⟨fun c => absurd c (by decide), fun _ => rfl, fun c => absurd c (by decide), fun c => absurd c (by decide), fun c => absurd c (by decide), fun c => absurd c (by decide), fun c => absurd c (by decide), fun c => absurd c (by decide), fun c => absurd c (by decide), fun _ c => absurd rfl c⟩
  · subst c
    exact ⟨fun c => absurd c (by decide), fun c => absurd c (by decide), fun _ => rfl, fun c => absurd c (by decide), fun c => absurd c (by decide), fun c => absurd c (by decide), fun c => absurd c (by decide), fun c => absurd c (by decide), fun c => absurd c (by decide), fun _ _ c => absurd rfl c⟩
  · subst c
    exact ⟨fun c => absurd c (by decide), fun c => absurd c (by decide), fun c => absurd c (by decide), fun _ => rfl, fun c => absurd c (by decide), fun c => absurd c (by decide), fun c => absurd c (by decide), fun c => absurd c (by decide), fun c => absurd c (by decide), fun _ _ _ c => absurd rfl c⟩
  · subst c
    refine ⟨fun c => absurd c (by decide), fun c => absurd c (by decide), fun c => absurd c (by decide), fun c => absurd c (by decide), fun _ => ?_, fun c => absurd c (by decide), fun c => absurd c (by decide), fun c => absurd c (by decide), fun c => absurd c (by decide), fun _ _ _ _ c => absurd rfl c⟩
    exact congrArg nI (sm_congr (fun u hu => cn_cut o2 (p3 u hu)))
  · subst c
    refine ⟨fun c => absurd c (by decide), fun c => absurd c (by decide), fun c => absurd c (by decide), fun c => absurd c (by decide), fun c => absurd c (by decide), fun _ => ?_, fun c => absurd c (by decide), fun c => absurd c (by decide), fun c => absurd c (by decide), fun _ _ _ _ _ c => absurd rfl c⟩
    exact congrArg nI (sm_congr (fun u hu => cn_cut (by omega) (p4 u hu)))
  · subst c
    refine ⟨fun c => absurd c (by decide), fun c => absurd c (by decide), fun c => absurd c (by decide), fun c => absurd c (by decide), fun c => absurd c (by decide), fun c => absurd c (by decide), fun _ => ?_, fun c => absurd c (by decide), fun c => absurd c (by decide), fun _ _ _ _ _ _ c => absurd rfl c⟩
    have e1 : sm (fun v => cn (fun i => tl (fjo v) i) 64) n = sm (fun v => cn (fun w => tl (fjo v) w) n) n := sm_congr (fun u hu => cn_cut (by omega) (fun i hi => (p5 u hu i hi).1))
    have hs : ∀ v w, v < n → w < n → tl (fjo v) w = tl (fjo w) v := by
      intro v w hv hw
      have a1 := p5 v hv w
      have a2 := p5 w hw v
      cases c1 : tl (fjo v) w <;> cases c2 : tl (fjo w) v
      · rfl
      · have := (a2 c2).2.2; rw [c1] at this; cases this
      · have := (a1 c1).2.2; rw [c2] at this; cases this
      · rfl
    have hd : ∀ v, v < n → tl (fjo v) v = false := by
      intro v hv
      cases c1 : tl (fjo v) v
      · rfl
      · exact absurd rfl (p5 v hv v c1).2.1
    have e2 := sm_half hs hd n (Nat.le_refl n)
    have hb : ∀ j, sm (fun v => cn (fun w => tl (fjo v) w) n) j ≤ j * 60 := by
      intro j
      induction j with
      | zero => exact Nat.le_refl 0
      | succ j ih =>
        have := cn_le (fun w => tl (fjo j) w) n
        rw [sm_s, Nat.succ_mul]
        omega
    have := hb n
    have hbn : n * 60 ≤ 3600 := by omega
    rw [e1, show (2 : Int32) = nI 2 from rfl, pk_div (by omega) (by decide) (by decide), e2, Nat.mul_div_cancel_left _ (by decide)]
  · subst c
    exact ⟨fun c => absurd c (by decide), fun c => absurd c (by decide), fun c => absurd c (by decide), fun c => absurd c (by decide), fun c => absurd c (by decide), fun c => absurd c (by decide), fun c => absurd c (by decide), fun _ => rfl, fun c => absurd c (by decide), fun _ _ _ _ _ _ _ c => absurd rfl c⟩
  · subst c
    exact ⟨fun c => absurd c (by decide), fun c => absurd c (by decide), fun c => absurd c (by decide), fun c => absurd c (by decide), fun c => absurd c (by decide), fun c => absurd c (by decide), fun c => absurd c (by decide), fun c => absurd c (by decide), fun _ => rfl, fun _ _ _ _ _ _ _ _ c => absurd rfl c⟩
  · exact ⟨fun c => absurd c c0, fun c => absurd c c1, fun c => absurd c c2, fun c => absurd c c3, fun c => absurd c c4, fun c => absurd c c5, fun c => absurd c c6, fun c => absurd c c7, fun c => absurd c c8, fun _ _ _ _ _ _ _ _ _ => rfl⟩

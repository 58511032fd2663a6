/-! the invariant of the law's loop; the first cases -/
def lawI (mk : Int32) (nv : Int32) (na : Int32) (fbi : Nat → Int32) (fab : Nat → Int32) (fhd : Nat → Int32) (fin : Nat → Int64) (fjo : Nat → Int64) (fnu : Nat → Int32) (fre : Nat → Int64) (fse : Nat → Int32) (kv : Nat → NV) (fvf : Nat → Int32) (faf : Nat → Int32) (fla : Nat → Int64) (xth : Int32) (xnv : Int32) (xna : Int32) (xtl : Int32) (xmk : Int32) (gbi : Nat → Int32) (gab : Nat → Int32) (ghv : Nat → Int32) (gic : Nat → Int32) (gbe : Nat → Int32) (gmt : Nat → Int32) (gmv : Nat → Int32) (gma : Nat → Int32) (gnd : Nat → Int32) (gre : Nat → Int64) (gse : Nat → Int32) (glv : Nat → Int32) (gal : Nat → Int32) (gds : Nat → Int32) (gno : Nat → Int32) (gna : Nat → Int32) (gp3 : Nat → Int64) : Prop :=
  ∃ (n k t m : Nat) (bi ab th tic tbe mt mv ma : Nat → Nat), mk = nI m ∧ nv = nI n ∧ na = nI k ∧ xnv = nI n ∧ xna = nI k ∧ xtl = nI t ∧ xmk = nI m ∧ netOK n k fhd fin fjo fnu fre fse ∧ biOK n fbi bi ∧ biOK k fab ab ∧ biOK n gbi bi ∧ biOK k gab ab ∧ RT t th tic tbe ghv gic gbe ∧ fitC n th tic tbe fhd fin fjo ∧ marksOK m t n k bi ab th tic tbe mt mv ma gmt gmv gma kv
theorem v01 : vp_in 0 1 := vp_in_nI (n := 0) (by decide) (by decide)
theorem tail0 {gp : Nat → Int64} {r b : Int32} {A : Prop} (e : r = b) (h : A) : S_X4_thrown 0 (fun r15 => (r15 = 0 → ((¬ (0 : Int32) = 0 → A) ∧ ((0 : Int32) = 0 → (vp_in 0 1 ∧ ((lg_cmp ((vp_updL gp (0 : Int32).toNatClampNeg r.toInt64) (0 : Int32).toNatClampNeg) b.toInt64 = 0 → A) ∧ (¬ lg_cmp ((vp_updL gp (0 : Int32).toNatClampNeg r.toInt64) (0 : Int32).toNatClampNeg) b.toInt64 = 0 → False)))))) ∧ (¬ r15 = 0 → False)) := by
  intro E hE
  apply hE
  rw [updL_at, e]
  exact ⟨fun _ => ⟨fun _ => h, fun _ => ⟨v01, fun _ => h, fun c => c (lc_eq.mpr rfl)⟩⟩, fun c => c rfl⟩
theorem tail0L {gp : Nat → Int64} {r b : Int64} {A : Prop} (e : r = b) (h : A) : S_X4_thrown 0 (fun r15 => (r15 = 0 → ((¬ (0 : Int32) = 0 → A) ∧ ((0 : Int32) = 0 → (vp_in 0 1 ∧ ((lg_cmp ((vp_updL gp (0 : Int32).toNatClampNeg r) (0 : Int32).toNatClampNeg) b = 0 → A) ∧ (¬ lg_cmp ((vp_updL gp (0 : Int32).toNatClampNeg r) (0 : Int32).toNatClampNeg) b = 0 → False)))))) ∧ (¬ r15 = 0 → False)) := by
  intro E hE
  apply hE
  rw [updL_at, e]
  exact ⟨fun _ => ⟨fun _ => h, fun _ => ⟨v01, fun _ => h, fun c => c (lc_eq.mpr rfl)⟩⟩, fun c => c rfl⟩
theorem tail1 {c : Int32} (hc : ¬ c = 0) {A B : Prop} (h : A) : S_X4_thrown c (fun r15 => (r15 = c → ((¬ c = 0 → A) ∧ (c = 0 → B))) ∧ (¬ r15 = c → False)) := by
  intro E hE
  apply hE
  exact ⟨fun _ => ⟨fun _ => h, fun q => absurd q hc⟩, fun q => q rfl⟩
/-! what is asked of arguments -/
theorem ixs (x : Int32) {n : Nat} (hn : n < 2 ^ 31) : (∃ j, j < n ∧ x = nI j) ∨ (x < 0 ∨ nI n ≤ x) := by
  rcases pk_ix x hn with h | h | h
  · exact Or.inr (Or.inl h)
  · exact Or.inr (Or.inr h)
  · exact Or.inl h
theorem nlt_le {x y : Int32} (h : y ≤ x) : ¬ x < y := Int32.not_lt.mpr h
theorem reqV_ok {v n : Nat} (hv : v < n) (hn : n ≤ 60) {post : Prop} {px : String → Prop} (h : post) : S_X3_requireVariable (nI v) (nI n) post px := by
  intro E hE
  apply hE
  exact ⟨fun c => absurd c (nI_pos (by omega)), fun _ => ⟨fun _ => h, fun c => absurd ((nI_ltI (by omega) (by omega)).mpr hv) c⟩⟩
theorem reqV_bad {x : Int32} {n : Nat} (hx : x < 0 ∨ nI n ≤ x) {post : Prop} {px : String → Prop} (h : px "java/lang/IndexOutOfBoundsException") : S_X3_requireVariable x (nI n) post px := by
  intro E hE
  apply hE
  refine ⟨fun _ => h, fun c => ⟨fun c2 => ?_, fun _ => h⟩⟩
  rcases hx with q | q
  · exact absurd q c
  · exact absurd c2 (nlt_le q)
theorem reqA_ok {v n : Nat} (hv : v < n) (hn : n ≤ 32) {post : Prop} {px : String → Prop} (h : post) : S_X3_requireAtom (nI v) (nI n) post px := by
  intro E hE
  apply hE
  exact ⟨fun c => absurd c (nI_pos (by omega)), fun _ => ⟨fun _ => h, fun c => absurd ((nI_ltI (by omega) (by omega)).mpr hv) c⟩⟩
theorem reqA_bad {x : Int32} {n : Nat} (hx : x < 0 ∨ nI n ≤ x) {post : Prop} {px : String → Prop} (h : px "java/lang/IndexOutOfBoundsException") : S_X3_requireAtom x (nI n) post px := by
  intro E hE
  apply hE
  refine ⟨fun _ => h, fun c => ⟨fun c2 => ?_, fun _ => h⟩⟩
  rcases hx with q | q
  · exact absurd q c
  · exact absurd c2 (nlt_le q)
theorem reqL_ok {b : Nat} (hb : b < 10) {post : Prop} {px : String → Prop} (h : post) : S_X3_requireLevel (nI b) post px := by
  intro E hE
  apply hE
  exact ⟨fun c => absurd c (nI_pos (by omega)), fun _ => ⟨fun _ => h, fun c => absurd ((nI_leI (b := 9) (by omega) (by omega)).mpr (by omega)) c⟩⟩
theorem l9 {x : Int32} (h : nI 10 ≤ x) : ¬ x ≤ 9 := by
  intro q
  have := Int32.le_trans h q
  exact absurd this (by decide)
theorem reqL_bad {x : Int32} (hx : x < 0 ∨ nI 10 ≤ x) {post : Prop} {px : String → Prop} (h : px "java/lang/IllegalArgumentException") : S_X3_requireLevel x post px := by
  intro E hE
  apply hE
  refine ⟨fun _ => h, fun c => ⟨fun c2 => ?_, fun _ => h⟩⟩
  rcases hx with q | q
  · exact absurd q c
  · exact absurd c2 (l9 q)
theorem isV_ok {v n : Nat} (hv : v < n) (hn : n ≤ 60) {post : Int32 → Prop} (h : post 1) : S_X4_isVariable (nI v) (nI n) post := by
  intro E hE
  apply hE
  exact ⟨fun c => absurd c (nI_pos (by omega)), fun _ => ⟨fun c => absurd c (nI_ge hv (by omega)), fun _ => h⟩⟩
theorem isV_bad {x : Int32} {n : Nat} (hx : x < 0 ∨ nI n ≤ x) {post : Int32 → Prop} (h : post 0) : S_X4_isVariable x (nI n) post := by
  intro E hE
  apply hE
  refine ⟨fun _ => h, fun c => ⟨fun _ => h, fun c2 => ?_⟩⟩
  rcases hx with q | q
  · exact absurd q c
  · exact absurd q c2
theorem isA_ok {v n : Nat} (hv : v < n) (hn : n ≤ 32) {post : Int32 → Prop} (h : post 1) : S_X4_isAtom (nI v) (nI n) post := by
  intro E hE
  apply hE
  exact ⟨fun c => absurd c (nI_pos (by omega)), fun _ => ⟨fun c => absurd c (nI_ge hv (by omega)), fun _ => h⟩⟩
theorem isA_bad {x : Int32} {n : Nat} (hx : x < 0 ∨ nI n ≤ x) {post : Int32 → Prop} (h : post 0) : S_X4_isAtom x (nI n) post := by
  intro E hE
  apply hE
  refine ⟨fun _ => h, fun c => ⟨fun _ => h, fun c2 => ?_⟩⟩
  rcases hx with q | q
  · exact absurd q c
  · exact absurd q c2
theorem go11 {x : Int32} {post : Int32 → Int32 → Prop} (h : post 1 0) : S_X4_goes 1 1 x post := by
  intro E hE
  apply hE
  exact ⟨fun _ => ⟨fun _ => h, fun c => absurd c (by decide)⟩, fun c => absurd c (by decide)⟩
theorem go01 {x y : Int32} {post : Int32 → Int32 → Prop} (h : post 0 1) : S_X4_goes 0 y x post := by
  intro E hE
  apply hE
  exact ⟨fun c => absurd rfl c, fun _ => h⟩
theorem go10 {x : Int32} {post : Int32 → Int32 → Prop} (h : post 0 2) : S_X4_goes 1 0 x post := by
  intro E hE
  apply hE
  exact ⟨fun _ => ⟨fun c => absurd rfl c, fun _ => h⟩, fun c => absurd c (by decide)⟩
theorem gone {A B : Prop} (h : A) : (¬ (1 : Int32) = 0 → A) ∧ ((1 : Int32) = 0 → B) := ⟨fun _ => h, fun c => absurd c (by decide)⟩
theorem gzer {A B : Prop} (h : B) : (¬ (0 : Int32) = 0 → A) ∧ ((0 : Int32) = 0 → B) := ⟨fun c => absurd rfl c, fun _ => h⟩
theorem gone' {A B : Prop} (h : A) : ((1 : Int32) = 0 → B) ∧ (¬ (1 : Int32) = 0 → A) := ⟨fun c => absurd c (by decide), fun _ => h⟩
theorem gzer' {A B : Prop} (h : B) : ((0 : Int32) = 0 → B) ∧ (¬ (0 : Int32) = 0 → A) := ⟨fun _ => h, fun c => absurd rfl c⟩
theorem sp_addVariable {n : Nat} {p : Int32} {fbi fhd : Nat → Int32} {fin fjo : Nat → Int64} {fnu : Nat → Int32} {fre : Nat → Int64} {fse : Nat → Int32} {post : Int32 → Int32 → (Nat → Int32) → (Nat → Int32) → (Nat → Int64) → (Nat → Int64) → (Nat → Int32) → (Nat → Int64) → (Nat → Int32) → Prop} (hn : n ≤ 60)
    (h0 : n = 60 → post (-1) (nI n) fbi fhd fin fjo fnu fre fse)
    (h1 : n < 60 → ∀ y, (∀ i, tl y i = decide (i = n)) → post (nI n) (nI (n + 1)) (upd fbi n p) (upd fhd n 0) (vp_updL fin n 0) (vp_updL fjo n 0) (upd fnu n (nI n)) (vp_updL fre n y) (upd fse n 0)) : S_X1_addVariable p (nI n) fbi fhd fin fjo fnu fre fse post := by
  intro E hE
  apply hE
  refine ⟨fun c => ?_, fun c => h0 ?_⟩
  · have hlt : n < 60 := (nI_ltI (b := 60) (by omega) (by omega)).mp c
    refine ⟨in60 hlt, ?_⟩
    rw [cl31 (show n < 2 ^ 31 by omega)]
    refine sp_bit (by omega) (fun y hy => nx_i (h1 hlt y hy))
  · rcases Nat.lt_or_ge n 60 with q | q
    · exact absurd ((nI_ltI (b := 60) (by omega) (by omega)).mpr q) c
    · omega
theorem sp_addAtom {k : Nat} {p : Int32} {fab : Nat → Int32} {post : Int32 → Int32 → (Nat → Int32) → Prop} (hk : k ≤ 32)
    (h0 : k = 32 → post (-1) (nI k) fab)
    (h1 : k < 32 → post (nI k) (nI (k + 1)) (upd fab k p)) : S_X1_addAtom p (nI k) fab post := by
  intro E hE
  apply hE
  refine ⟨fun c => ?_, fun c => h0 ?_⟩
  · have hlt : k < 32 := (nI_ltI (b := 32) (by omega) (by omega)).mp c
    refine ⟨in32 hlt, ?_⟩
    rw [cl31 (show k < 2 ^ 31 by omega)]
    exact nx_i (h1 hlt)
  · rcases Nat.lt_or_ge k 32 with q | q
    · exact absurd ((nI_ltI (b := 32) (by omega) (by omega)).mpr q) c
    · omega
theorem sp_newVariable {n : Nat} (hn : n < 60) {p : Int32} {gbi : Nat → Int32} {post : Int32 → Int32 → (Nat → Int32) → Prop} (h : post (nI n) (nI (n + 1)) (upd gbi n p)) : S_X4_newVariable p (nI n) gbi post := by
  intro E hE
  apply hE
  refine ⟨in60 hn, nx_i ?_⟩
  rw [nI_pred, cl31 (show n < 2 ^ 31 by omega)]
  exact h
theorem sp_newAtom {n : Nat} (hn : n < 32) {p : Int32} {gab : Nat → Int32} {post : Int32 → Int32 → (Nat → Int32) → Prop} (h : post (nI n) (nI (n + 1)) (upd gab n p)) : S_X4_newAtom p (nI n) gab post := by
  intro E hE
  apply hE
  refine ⟨in32 hn, nx_i ?_⟩
  rw [nI_pred, cl31 (show n < 2 ^ 31 by omega)]
  exact h
theorem lev_bad {x : Int32} (hx : x < 0 ∨ nI 10 ≤ x) {A B : Prop} (h : A) : (x < 0 → A) ∧ (¬ x < 0 → ((10 : Int32) ≤ x → A) ∧ (¬ (10 : Int32) ≤ x → B)) := by
  refine ⟨fun _ => h, fun c => ⟨fun _ => h, fun c2 => ?_⟩⟩
  rcases hx with q | q
  · exact absurd q c
  · exact absurd q c2
theorem lev_ok {b : Nat} (hb : b < 10) {A B C : Prop} (h : B) : (nI b < 0 → A) ∧ (¬ nI b < 0 → ((10 : Int32) ≤ nI b → C) ∧ (¬ (10 : Int32) ≤ nI b → B)) :=
  ⟨fun c => absurd c (nI_pos (by omega)), fun _ => ⟨fun c => absurd c (nI_ge (b := 10) hb (by omega)), fun _ => h⟩⟩
theorem li_0 (xs : Nat → Int32) (x4 : Int32) {mk : Int32} {nv : Int32} {na : Int32} {fbi : Nat → Int32} {fab : Nat → Int32} {fhd : Nat → Int32} {fin : Nat → Int64} {fjo : Nat → Int64} {fnu : Nat → Int32} {fre : Nat → Int64} {fse : Nat → Int32} {kv : Nat → NV} {fvf : Nat → Int32} {faf : Nat → Int32} {fla : Nat → Int64} {xth : Int32} {xnv : Int32} {xna : Int32} {xtl : Int32} {xmk : Int32} {gbi : Nat → Int32} {gab : Nat → Int32} {ghv : Nat → Int32} {gic : Nat → Int32} {gbe : Nat → Int32} {gmt : Nat → Int32} {gmv : Nat → Int32} {gma : Nat → Int32} {gnd : Nat → Int32} {gre : Nat → Int64} {gse : Nat → Int32} {glv : Nat → Int32} {gal : Nat → Int32} {gds : Nat → Int32} {gno : Nat → Int32} {gna : Nat → Int32} {gp3 : Nat → Int64} (hI : lawI mk nv na fbi fab fhd fin fjo fnu fre fse kv fvf faf fla xth xnv xna xtl xmk gbi gab ghv gic gbe gmt gmv gma gnd gre gse glv gal gds gno gna gp3) : T_law_0 xs x4 mk nv na fbi fab fhd fin fjo fnu fre fse kv fvf faf fla xth xnv xna xtl xmk gbi gab ghv gic gbe gmt gmv gma gnd gre gse glv gal gds gno gna gp3 lawI := by
  obtain ⟨n, k, t, m, bi, ab, th, tic, tbe, mt, mv, ma, e1, e2, e3, e4, e5, e6, e7, ok, b1, b2, b3, b4, rt, ft, mo⟩ := hI
  subst e1 e2 e3 e4 e5 e6 e7
  have o1 := ok.1
  have o2 := ok.2.1
  unfold T_law_0
  generalize xs (x4 + 1).toNatClampNeg = x
  intro E hE
  apply hE
  intro E hE
  apply hE
  rcases ixs x (n := 10) (by decide) with ⟨b, hb, rfl⟩ | hx
  · refine reqL_ok hb (sp_addVariable o1 (fun c => ⟨v01, ?_⟩) (fun c y hy => ⟨v01, ?_⟩))
    · intro E K hK hE
      apply hE
      refine lev_ok hb (go11 (gone (hK _ _ _ ⟨fun q => absurd (by rw [c]; rfl) q, fun q => ?_⟩)))
      exact tail0 rfl ⟨n, k, t, m, bi, ab, th, tic, tbe, mt, mv, ma, rfl, rfl, rfl, rfl, rfl, rfl, rfl, ok, b1, b2, b3, b4, rt, ft, mo⟩
    · intro E K hK hE
      apply hE
      refine lev_ok hb (go11 (gone (hK _ _ _ ⟨fun q => sp_newVariable c ?_, fun q => ?_⟩)))
      · exact tail0 rfl ⟨n + 1, k, t, m, put bi n b, ab, th, tic, tbe, mt, mv, ma, rfl, rfl, rfl, rfl, rfl, rfl, rfl, ok_var ok c hy, biOK_put b1 hb, b2, biOK_put b3 hb, b4, rt, fitC_var ft, marks_ext mo (by omega) (Nat.le_refl _) (fun v hv => put_ne (by omega)) (fun _ _ => rfl) (extT_refl _ _ _ _)⟩
      · have := (nI_eq (b := 60) (by omega) (by omega)).mp q
        omega
  · refine reqL_bad hx ⟨rfl, ?_⟩
    intro E K hK hE
    apply hE
    refine lev_bad hx (go01 (gzer ?_))
    exact tail1 (by decide) ⟨n, k, t, m, bi, ab, th, tic, tbe, mt, mv, ma, rfl, rfl, rfl, rfl, rfl, rfl, rfl, ok, b1, b2, b3, b4, rt, ft, mo⟩
theorem li_1 (xs : Nat → Int32) (x4 : Int32) {mk : Int32} {nv : Int32} {na : Int32} {fbi : Nat → Int32} {fab : Nat → Int32} {fhd : Nat → Int32} {fin : Nat → Int64} {fjo : Nat → Int64} {fnu : Nat → Int32} {fre : Nat → Int64} {fse : Nat → Int32} {kv : Nat → NV} {fvf : Nat → Int32} {faf : Nat → Int32} {fla : Nat → Int64} {xth : Int32} {xnv : Int32} {xna : Int32} {xtl : Int32} {xmk : Int32} {gbi : Nat → Int32} {gab : Nat → Int32} {ghv : Nat → Int32} {gic : Nat → Int32} {gbe : Nat → Int32} {gmt : Nat → Int32} {gmv : Nat → Int32} {gma : Nat → Int32} {gnd : Nat → Int32} {gre : Nat → Int64} {gse : Nat → Int32} {glv : Nat → Int32} {gal : Nat → Int32} {gds : Nat → Int32} {gno : Nat → Int32} {gna : Nat → Int32} {gp3 : Nat → Int64} (hI : lawI mk nv na fbi fab fhd fin fjo fnu fre fse kv fvf faf fla xth xnv xna xtl xmk gbi gab ghv gic gbe gmt gmv gma gnd gre gse glv gal gds gno gna gp3) : T_law_1 xs x4 mk nv na fbi fab fhd fin fjo fnu fre fse kv fvf faf fla xth xnv xna xtl xmk gbi gab ghv gic gbe gmt gmv gma gnd gre gse glv gal gds gno gna gp3 lawI := by
  obtain ⟨n, k, t, m, bi, ab, th, tic, tbe, mt, mv, ma, e1, e2, e3, e4, e5, e6, e7, ok, b1, b2, b3, b4, rt, ft, mo⟩ := hI
  subst e1 e2 e3 e4 e5 e6 e7
  have o1 := ok.1
  have o2 := ok.2.1
  unfold T_law_1
  generalize xs (x4 + 1).toNatClampNeg = x
  intro E hE
  apply hE
  intro E hE
  apply hE
  rcases ixs x (n := 10) (by decide) with ⟨b, hb, rfl⟩ | hx
  · refine reqL_ok hb (sp_addAtom o2 (fun c => ⟨v01, ?_⟩) (fun c => ⟨v01, ?_⟩))
    · intro E K hK hE
      apply hE
      refine lev_ok hb (go11 (gone (hK _ _ _ ⟨fun q => absurd (by rw [c]; rfl) q, fun q => ?_⟩)))
      exact tail0 rfl ⟨n, k, t, m, bi, ab, th, tic, tbe, mt, mv, ma, rfl, rfl, rfl, rfl, rfl, rfl, rfl, ok, b1, b2, b3, b4, rt, ft, mo⟩
    · intro E K hK hE
      apply hE
      refine lev_ok hb (go11 (gone (hK _ _ _ ⟨fun q => sp_newAtom c ?_, fun q => ?_⟩)))
      · exact tail0 rfl ⟨n, k + 1, t, m, bi, put ab k b, th, tic, tbe, mt, mv, ma, rfl, rfl, rfl, rfl, rfl, rfl, rfl, ok_atom ok c, b1, biOK_put b2 hb, b3, biOK_put b4 hb, rt, ft, marks_ext mo (Nat.le_refl _) (by omega) (fun _ _ => rfl) (fun v hv => put_ne (by omega)) (extT_refl _ _ _ _)⟩
      · have := (nI_eq (b := 32) (by omega) (by omega)).mp q
        omega
  · refine reqL_bad hx ⟨rfl, ?_⟩
    intro E K hK hE
    apply hE
    refine lev_bad hx (go01 (gzer ?_))
    exact tail1 (by decide) ⟨n, k, t, m, bi, ab, th, tic, tbe, mt, mv, ma, rfl, rfl, rfl, rfl, rfl, rfl, rfl, ok, b1, b2, b3, b4, rt, ft, mo⟩

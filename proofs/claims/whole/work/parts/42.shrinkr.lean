/-! the reference's shrink -/
/-- the reference's tables while rings are joined -/
def roI (n : Nat) (nu lr : Nat → Nat) (t0 : Nat) (th tic tbe0 : Nat → Nat) (ghv gic : Nat → Int32) (l x t : Nat) (tbe : Nat → Nat) (gbe : Nat → Int32) : Prop :=
  RT t th tic tbe ghv gic gbe ∧ extT t0 th tic tbe0 t th tic tbe ∧
  (∀ i, 1 ≤ tbe i ↔ 1 ≤ tbe0 i ∨ ∃ c, c < n ∧ jd nu lr l x c ∧ (i = 60 * lr c + c ∨ i = 60 * c + lr c))
theorem roI_same {n : Nat} {nu lr : Nat → Nat} {t0 : Nat} {th tic tbe0 : Nat → Nat} {ghv gic : Nat → Int32} {l x l' x' t : Nat} {tbe : Nat → Nat} {gbe : Nat → Int32} (h : roI n nu lr t0 th tic tbe0 ghv gic l x t tbe gbe) (he : ∀ c, c < n → (jd nu lr l x c ↔ jd nu lr l' x' c)) : roI n nu lr t0 th tic tbe0 ghv gic l' x' t tbe gbe := by
  obtain ⟨h1, h2, h3⟩ := h
  refine ⟨h1, h2, fun i => (h3 i).trans ?_⟩
  constructor
  · rintro (q | ⟨c, hc, q, q2⟩)
    · exact Or.inl q
    · exact Or.inr ⟨c, hc, (he c hc).mp q, q2⟩
  · rintro (q | ⟨c, hc, q, q2⟩)
    · exact Or.inl q
    · exact Or.inr ⟨c, hc, (he c hc).mpr q, q2⟩
theorem roI_sym {n : Nat} (hn : n ≤ 60) {nu lr : Nat → Nat} (hlr : ∀ v, v < n → lr v ≤ v) {t0 : Nat} {th tic tbe0 : Nat → Nat} {ghv gic : Nat → Int32} {l x t : Nat} {tbe : Nat → Nat} {gbe : Nat → Int32} (hs : ∀ v w, v < 60 → w < 60 → (1 ≤ tbe0 (60 * v + w) ↔ 1 ≤ tbe0 (60 * w + v))) (h : roI n nu lr t0 th tic tbe0 ghv gic l x t tbe gbe) {v w : Nat} (hv : v < 60) (hw : w < 60) : 1 ≤ tbe (60 * v + w) ↔ 1 ≤ tbe (60 * w + v) := by
  rw [h.2.2, h.2.2, hs v w hv hw]
  constructor
  · rintro (q | ⟨c, hc, q, q2⟩)
    · exact Or.inl q
    · have := hlr c hc
      exact Or.inr ⟨c, hc, q, by omega⟩
  · rintro (q | ⟨c, hc, q, q2⟩)
    · exact Or.inl q
    · have := hlr c hc
      exact Or.inr ⟨c, hc, q, by omega⟩
theorem sp_shrinkR {n k t0 : Nat} {bi ab th tic tbe0 : Nat → Nat} {fhd : Nat → Int32} {fin fjo : Nat → Int64} {fnu : Nat → Int32} {fre : Nat → Int64} {fse : Nat → Int32} {gbi gab ghv gic gbe gnd : Nat → Int32} {gre : Nat → Int64} {gse glv gal : Nat → Int32} {xth : Int32} {nu lr : Nat → Nat} (ok : netOK n k fhd fin fjo fnu fre fse) (rf : ringF n fnu fre nu lr) (hbi : biOK n gbi bi) (hab : biOK k gab ab) (rt : RT t0 th tic tbe0 ghv gic gbe) (ft : fitC n th tic tbe0 fhd fin fjo) {post : Int32 → Int32 → Int32 → (Nat → Int32) → (Nat → Int32) → (Nat → Int64) → (Nat → Int32) → (Nat → Int32) → (Nat → Int32) → Prop}
    (h : ∀ t tbe gbe gnd gre gse glv gal, roI n nu lr t0 th tic tbe0 ghv gic n 0 t tbe gbe → post (nI (cn (jdB nu lr n 0) n)) 0 (nI t) gbe gnd gre gse glv gal) : S_X4_shrink xth (nI n) (nI k) (nI t0) gbi gab ghv gic gbe gnd gre gse glv gal post := by
  have o1 := ok.1
  have o2 := ok.2.1
  have hlr : ∀ v, v < n → lr v ≤ v := fun v hv => (rf.2.1 v hv).1
  have hs0 : ∀ v w, v < 60 → w < 60 → (1 ≤ tbe0 (60 * v + w) ↔ 1 ≤ tbe0 (60 * w + v)) := fun v w hv hw => fitC_sym ok ft hv hw
  intro E K13 K23 h13 h23 hE
  apply hE
  refine sp_workOut ok hbi hab (RT_relT o1 o2 rt ft) (fun gnd gre gse glv gal w1 => ?_)
  have key := dn (P := fun l => ∀ t tbe gbe, roI n nu lr t0 th tic tbe0 ghv gic l 0 t tbe gbe → K13 (nI (cn (jdB nu lr l 0) n)) (nI l) 0 (nI t) gbe gnd gre gse glv gal) n (by
    intro t tbe gbe hI
    apply h13
    exact hd_eq (h t tbe gbe _ _ _ _ _ hI)) (by
    intro l hl ih t tbe gbe hI
    apply h13
    refine hd_lt hl (by omega) ?_
    have inn := dn (P := fun x => ∀ t tbe gbe, roI n nu lr t0 th tic tbe0 ghv gic l x t tbe gbe → K23 (nI (cn (jdB nu lr l x) n)) (nI l) (nI x) 0 (nI t) gbe gnd gre gse glv gal) n (by
      intro t tbe gbe hI
      apply h23
      refine hd_eq (nx_i ?_)
      rw [cn_jd (fun c hc => jd_end c hc)]
      exact ih t tbe gbe (roI_same hI (fun c hc => jd_end c hc))) (by
      intro x hx ihx t tbe gbe hI
      apply h23
      refine hd_lt hx (by omega) ⟨in60 (by omega), ?_⟩
      have bx := (rf.1 x hx).2.1
      have blx := hlr x hx
      rw [cl31 (show x < 2 ^ 31 by omega), w1.1 x hx, (rf.1 x hx).1, nI_eq (by omega) (by omega), nI_eq (by omega) (by omega)]
      have skip : ¬ (nu x = x ∧ lr x ≠ x ∧ lr x = l) → K23 (nI (cn (jdB nu lr l x) n)) (nI l) (nI (x + 1)) 0 (nI t) gbe gnd gre gse glv gal := by
        intro q
        rw [cn_jd (fun c _ => jd_step q c)]
        exact ihx t tbe gbe (roI_same hI (fun c _ => jd_step q c))
      refine ⟨fun c => nx_i (skip (fun q => c q.1)), fun c => ⟨fun c2 => nx_i (skip (fun q => q.2.1 (by omega))), fun c2 => ?_⟩⟩
      refine sp_ring ok w1 hx (rf.2.1 x hx) ?_
      rw [nI_eq (by omega) (by omega)]
      refine ⟨fun c3 => nx_i (skip (fun q => c3 q.2.2)), fun c3 => ?_⟩
      have hxx : nu x = x ∧ lr x ≠ x ∧ lr x = l := ⟨c, by omega, c3⟩
      refine sp_tellOneR (by omega) (by omega) hI.1 (roI_sym o1 hlr hs0 hI (by omega) (by omega)) (fun e => absurd e.symm c2) (fun _ t' tbe' gbe' rt' ex hp => nx_i (nx_i ?_))
      rw [← cn_new hxx hx]
      refine ihx t' tbe' gbe' ⟨rt', extT_trans hI.2.1 ex, fun i => ?_⟩
      rw [hp i, hI.2.2 i]
      constructor
      · rintro ((q | ⟨y, hy, q, q2⟩) | q | q)
        · exact Or.inl q
        · exact Or.inr ⟨y, hy, (jd_new hxx y).mpr (Or.inl q), q2⟩
        · exact Or.inr ⟨x, hx, (jd_new hxx x).mpr (Or.inr rfl), Or.inl (by rw [c3]; exact q)⟩
        · exact Or.inr ⟨x, hx, (jd_new hxx x).mpr (Or.inr rfl), Or.inr (by rw [c3]; exact q)⟩
      · rintro (q | ⟨y, hy, q, q2⟩)
        · exact Or.inl (Or.inl q)
        · rcases (jd_new hxx y).mp q with q3 | q3
          · exact Or.inl (Or.inr ⟨y, hy, q3, q2⟩)
          · subst q3
            rw [c3] at q2
            exact Or.inr q2)
    exact inn 0 (by omega) t tbe gbe hI)
  have z : ∀ c, ¬ jd nu lr 0 0 c := by
    rintro c ⟨_, _, h | ⟨_, h⟩⟩ <;> omega
  have zb : ∀ c, jdB nu lr 0 0 c = false := by
    intro c
    cases q : jdB nu lr 0 0 c
    · rfl
    · exact absurd (jd_iff.mp q) (z c)
  have k0 := key 0 (by omega) t0 tbe0 gbe ⟨rt, extT_refl _ _ _ _, fun i => ⟨Or.inl, fun q => q.elim id (fun ⟨c, _, q, _⟩ => absurd q (z c))⟩⟩
  rw [cn_false (fun i _ => zb i)] at k0
  exact k0
theorem li_5 (xs : Nat → Int32) (x4 : Int32) {mk : Int32} {nv : Int32} {na : Int32} {fbi : Nat → Int32} {fab : Nat → Int32} {fhd : Nat → Int32} {fin : Nat → Int64} {fjo : Nat → Int64} {fnu : Nat → Int32} {fre : Nat → Int64} {fse : Nat → Int32} {kv : Nat → NV} {fvf : Nat → Int32} {faf : Nat → Int32} {fla : Nat → Int64} {xth : Int32} {xnv : Int32} {xna : Int32} {xtl : Int32} {xmk : Int32} {gbi : Nat → Int32} {gab : Nat → Int32} {ghv : Nat → Int32} {gic : Nat → Int32} {gbe : Nat → Int32} {gmt : Nat → Int32} {gmv : Nat → Int32} {gma : Nat → Int32} {gnd : Nat → Int32} {gre : Nat → Int64} {gse : Nat → Int32} {glv : Nat → Int32} {gal : Nat → Int32} {gds : Nat → Int32} {gno : Nat → Int32} {gna : Nat → Int32} {gp3 : Nat → Int64} (hI : lawI mk nv na fbi fab fhd fin fjo fnu fre fse kv fvf faf fla xth xnv xna xtl xmk gbi gab ghv gic gbe gmt gmv gma gnd gre gse glv gal gds gno gna gp3) : T_law_5 xs x4 mk nv na fbi fab fhd fin fjo fnu fre fse kv fvf faf fla xth xnv xna xtl xmk gbi gab ghv gic gbe gmt gmv gma gnd gre gse glv gal gds gno gna gp3 lawI := by
  obtain ⟨n, k, t, m, bi, ab, th, tic, tbe, mt, mv, ma, e1, e2, e3, e4, e5, e6, e7, ok, b1, b2, b3, b4, rt, ft, mo⟩ := hI
  subst e1 e2 e3 e4 e5 e6 e7
  have o1 := ok.1
  have o2 := ok.2.1
  unfold T_law_5
  obtain ⟨nu, lr, rf⟩ := ringF_ex ok
  have hlr : ∀ v, v < n → lr v ≤ v := fun v hv => (rf.2.1 v hv).1
  intro E hE
  apply hE
  refine sp_joinRings ok rf (fun fjo' fnu' hI => ?_)
  refine sp_shrinkR ok rf b3 b4 rt ft (fun t' tbe' gbe' _ _ _ _ _ hR => ⟨fun _ => ?_, fun c => c rfl⟩)
  refine ⟨n, k, t', m, bi, ab, th, tic, tbe', mt, mv, ma, rfl, rfl, rfl, rfl, rfl, rfl, rfl, hI.1, b1, b2, b3, b4, hR.1, ⟨ft.1, ft.2.1, fun v w hv hw => ?_⟩, marks_ext mo (Nat.le_refl _) (Nat.le_refl _) (fun _ _ => rfl) (fun _ _ => rfl) hR.2.1⟩
  rw [hR.2.2, ft.2.2 v w hv hw]
  constructor
  · rintro (q | ⟨c, hc, q, q2 | q2⟩)
    · exact ⟨q.1, (hI.2.2 v q.1 w).mpr (Or.inl q.2)⟩
    · have := hlr c hc
      have e1 : v = lr c := by omega
      have e2 : w = c := by omega
      subst e2
      exact ⟨by omega, (hI.2.2 v (by omega) w).mpr (Or.inr ⟨hc, Or.inl ⟨q, e1.symm⟩⟩)⟩
    · have := hlr c hc
      have e1 : v = c := by omega
      have e2 : w = lr c := by omega
      subst e1
      exact ⟨hc, (hI.2.2 v hc w).mpr (Or.inr ⟨by omega, Or.inr ⟨q, e2.symm⟩⟩)⟩
  · rintro ⟨hvn, q⟩
    rcases (hI.2.2 v hvn w).mp q with q | ⟨hwn, q | q⟩
    · exact Or.inl ⟨hvn, q⟩
    · exact Or.inr ⟨w, hwn, q.1, Or.inl (by rw [q.2])⟩
    · exact Or.inr ⟨v, hvn, q.1, Or.inr (by rw [q.2])⟩

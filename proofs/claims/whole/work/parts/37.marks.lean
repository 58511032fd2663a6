/-! mark and back -/
theorem cl0 : (0 : Int32).toNatClampNeg = 0 := by decide
theorem cpy0 {α : Type} {f g : Nat → α} {n v : Nat} (h : v < n) : va_cpy f g 0 0 n v = f v := by
  unfold va_cpy
  rw [if_pos ⟨by omega, by omega⟩, Nat.zero_add, Nat.sub_zero]
theorem sp_takeFrom {n k : Nat} (hn : n ≤ 60) (hk : k ≤ 32) {nv na : Int32} {fbi fab fhd : Nat → Int32} {fin fjo : Nat → Int64} {fnu : Nat → Int32} {fre : Nat → Int64} {fse : Nat → Int32} {fbio fabo fhdo : Nat → Int32} {fino fjoo : Nat → Int64} {fnuo : Nat → Int32} {freo : Nat → Int64} {fseo : Nat → Int32} {post : Int32 → Int32 → (Nat → Int32) → (Nat → Int32) → (Nat → Int32) → (Nat → Int64) → (Nat → Int64) → (Nat → Int32) → (Nat → Int64) → (Nat → Int32) → Prop}
    (h : ∀ a b c d e f g i, (∀ v, v < n → a v = fbio v) → (∀ v, v < k → b v = fabo v) → (∀ v, v < n → c v = fhdo v) → (∀ v, v < n → d v = fino v) → (∀ v, v < n → e v = fjoo v) → (∀ v, v < n → f v = fnuo v) → (∀ v, v < n → g v = freo v) → (∀ v, v < n → i v = fseo v) → post (nI n) (nI k) a b c d e f g i) : S_X1_takeFrom nv na (nI n) (nI k) fbi fab fhd fin fjo fnu fre fse fbio fabo fhdo fino fjoo fnuo freo fseo post := by
  intro E hE
  apply hE
  rw [cl0, cl31 (show n < 2 ^ 31 by omega), cl31 (show k < 2 ^ 31 by omega)]
  refine ⟨⟨nI_pos (by omega), by omega, by omega⟩, ⟨nI_pos (by omega), by omega, by omega⟩, ?_⟩
  exact h _ _ _ _ _ _ _ _ (fun v hv => cpy0 hv) (fun v hv => cpy0 hv) (fun v hv => cpy0 hv) (fun v hv => cpy0 hv) (fun v hv => cpy0 hv) (fun v hv => cpy0 hv) (fun v hv => cpy0 hv) (fun v hv => cpy0 hv)
theorem biOK_congr {n : Nat} {f g : Nat → Int32} {bi : Nat → Nat} (h : biOK n f bi) (e : ∀ v, v < n → g v = f v) : biOK n g bi := fun v hv => by rw [e v hv]; exact h v hv
theorem fit_congr {s n : Nat} {th tic tbe : Nat → Nat} {fhd fhd' : Nat → Int32} {fin fjo fin' fjo' : Nat → Int64} (h : fit s n th tic tbe fhd fin fjo) (e1 : ∀ v, v < n → fhd' v = fhd v) (e2 : ∀ v, v < n → fin' v = fin v) (e3 : ∀ v, v < n → fjo' v = fjo v) : fit s n th tic tbe fhd' fin' fjo' := by
  obtain ⟨h1, h2, h3⟩ := h
  refine ⟨fun v a hv ha => (h1 v a hv ha).trans ?_, fun v a hv ha => (h2 v a hv ha).trans ?_, fun v a hv ha => (h3 v a hv ha).trans ?_⟩
  · exact ⟨fun q => ⟨q.1, by rw [e1 v q.1]; exact q.2⟩, fun q => ⟨q.1, by rw [← e1 v q.1]; exact q.2⟩⟩
  · exact ⟨fun q => ⟨q.1, by rw [e2 v q.1]; exact q.2⟩, fun q => ⟨q.1, by rw [← e2 v q.1]; exact q.2⟩⟩
  · exact ⟨fun q => ⟨q.1, by rw [e3 v q.1]; exact q.2⟩, fun q => ⟨q.1, by rw [← e3 v q.1]; exact q.2⟩⟩
theorem up_at {α : Type} {f : Nat → α} {k : Nat} {x : α} : va_up f k x k = x := by unfold va_up; rw [if_pos rfl]
theorem up_ne {α : Type} {f : Nat → α} {k j : Nat} {x : α} (h : j ≠ k) : va_up f k x j = f j := by unfold va_up; rw [if_neg h]
theorem li_7 (xs : Nat → Int32) (x4 : Int32) {mk : Int32} {nv : Int32} {na : Int32} {fbi : Nat → Int32} {fab : Nat → Int32} {fhd : Nat → Int32} {fin : Nat → Int64} {fjo : Nat → Int64} {fnu : Nat → Int32} {fre : Nat → Int64} {fse : Nat → Int32} {kv : Nat → NV} {fvf : Nat → Int32} {faf : Nat → Int32} {fla : Nat → Int64} {xth : Int32} {xnv : Int32} {xna : Int32} {xtl : Int32} {xmk : Int32} {gbi : Nat → Int32} {gab : Nat → Int32} {ghv : Nat → Int32} {gic : Nat → Int32} {gbe : Nat → Int32} {gmt : Nat → Int32} {gmv : Nat → Int32} {gma : Nat → Int32} {gnd : Nat → Int32} {gre : Nat → Int64} {gse : Nat → Int32} {glv : Nat → Int32} {gal : Nat → Int32} {gds : Nat → Int32} {gno : Nat → Int32} {gna : Nat → Int32} {gp3 : Nat → Int64} (hI : lawI mk nv na fbi fab fhd fin fjo fnu fre fse kv fvf faf fla xth xnv xna xtl xmk gbi gab ghv gic gbe gmt gmv gma gnd gre gse glv gal gds gno gna gp3) : T_law_7 xs x4 mk nv na fbi fab fhd fin fjo fnu fre fse kv fvf faf fla xth xnv xna xtl xmk gbi gab ghv gic gbe gmt gmv gma gnd gre gse glv gal gds gno gna gp3 lawI := by
  obtain ⟨n, k, t, m, bi, ab, th, tic, tbe, mt, mv, ma, e1, e2, e3, e4, e5, e6, e7, ok, b1, b2, b3, b4, rt, ft, mo⟩ := hI
  subst e1 e2 e3 e4 e5 e6 e7
  have o1 := ok.1
  have o2 := ok.2.1
  unfold T_law_7
  intro E hE
  apply hE
  have m1 := mo.1
  refine ⟨fun c => ?_, fun c => ?_⟩
  · have hm : m < 20 := (nI_ltI (b := 20) (by omega) (by omega)).mp c
    refine ⟨vp_in_nI hm (by decide), sp_takeFrom o1 o2 (fun fb fa c0 c1 c2 c3 c4 c5 q1 q2 d0 d1 d2 d3 d4 d5 => nx_i ?_)⟩
    intro E hE
    apply hE
    refine ⟨fun _ => ⟨vp_in_nI hm (by decide), nx_i ⟨fun _ => ?_, fun c => c rfl⟩⟩, fun q => ?_⟩
    · rw [cl31 (show m < 2 ^ 31 by omega)]
      refine ⟨n, k, t, m + 1, bi, ab, th, tic, tbe, put mt m t, put mv m n, put ma m k, rfl, rfl, rfl, rfl, rfl, rfl, rfl, ok, b1, b2, b3, b4, rt, ft, ?_⟩
      obtain ⟨h1, h2, h3, h4, h5⟩ := mo
      refine ⟨by omega, fun j hj => ?_, fun j hj => ?_, fun i j hij hj => ?_, fun j hj => ?_⟩
      · by_cases e : j = m
        · rw [e, upd_at, upd_at, upd_at, put_at, put_at, put_at]; exact ⟨rfl, rfl, rfl⟩
        · rw [upd_ne e, upd_ne e, upd_ne e, put_ne e, put_ne e, put_ne e]; exact h2 j (by omega)
      · by_cases e : j = m
        · rw [e, put_at, put_at, put_at]; exact ⟨Nat.le_refl _, Nat.le_refl _, Nat.le_refl _⟩
        · rw [put_ne e, put_ne e, put_ne e]; exact h3 j (by omega)
      · have hi : i ≠ m := by omega
        rw [put_ne hi, put_ne hi, put_ne hi]
        by_cases e : j = m
        · rw [e, put_at, put_at, put_at]; exact h3 i (by omega)
        · rw [put_ne e, put_ne e, put_ne e]; exact h4 i j hij (by omega)
      · by_cases e : j = m
        · rw [e, put_at, put_at, put_at, up_at]
          exact ⟨rfl, rfl, biOK_congr b1 q1, biOK_congr b2 q2, netOK_congr ok d0 d1 d2 d3 d4 d5, fit_congr (fit_of rt.2 ft) d0 d1 d2⟩
        · rw [put_ne e, put_ne e, put_ne e, up_ne e]; exact h5 j (by omega)
    · have := (nI_eq (b := 20) (by omega) (by omega)).mp q
      omega
  · have hm : m = 20 := by
      rcases Nat.lt_or_ge m 20 with q | q
      · exact absurd ((nI_ltI (b := 20) (by omega) (by omega)).mpr q) c
      · omega
    intro E hE
    apply hE
    refine ⟨fun q => absurd (by rw [hm]; rfl) q, fun _ => ⟨fun _ => ⟨n, k, t, m, bi, ab, th, tic, tbe, mt, mv, ma, rfl, rfl, rfl, rfl, rfl, rfl, rfl, ok, b1, b2, b3, b4, rt, ft, mo⟩, fun c => c rfl⟩⟩
def cut (s : Nat) (f : Nat → Nat) : Nat → Nat := fun j => if f j ≤ s then f j else 0
theorem cut_le (s : Nat) (f : Nat → Nat) (j : Nat) : cut s f j ≤ s := by unfold cut; split <;> omega
theorem cut_in {s u : Nat} (h : u ≤ s) (f : Nat → Nat) (j : Nat) : (1 ≤ cut s f j ∧ cut s f j ≤ u) ↔ (1 ≤ f j ∧ f j ≤ u) := by unfold cut; split <;> omega
theorem cut_pos (s : Nat) (f : Nat → Nat) (j : Nat) : 1 ≤ cut s f j ↔ (1 ≤ f j ∧ f j ≤ s) := by unfold cut; split <;> omega
theorem cut_old {N s u : Nat} {f : Nat → Nat} (h : u ≤ s) (q : ∃ j, j < N ∧ f j = u) : ∃ j, j < N ∧ cut s f j = u := by
  obtain ⟨j, hj, e⟩ := q
  exact ⟨j, hj, by unfold cut; rw [if_pos (by omega)]; exact e⟩
theorem fit_cut {s u n : Nat} {th tic tbe : Nat → Nat} {fhd : Nat → Int32} {fin fjo : Nat → Int64} (hu : u ≤ s) (h : fit u n th tic tbe fhd fin fjo) : fit u n (cut s th) (cut s tic) (cut s tbe) fhd fin fjo := by
  obtain ⟨h1, h2, h3⟩ := h
  exact ⟨fun v a hv ha => by rw [cut_in hu]; exact h1 v a hv ha, fun v a hv ha => by rw [cut_in hu]; exact h2 v a hv ha, fun v a hv ha => by rw [cut_in hu]; exact h3 v a hv ha⟩
theorem sp_forget {N s : Nat} (hN : N < 2 ^ 31) (hs : s < 2 ^ 31) {g : Nat → Int32} {f : Nat → Nat} (hf : ∀ j, j < N → g j = nI (f j) ∧ f j < 2 ^ 31) {post : (Nat → Int32) → Prop} (h : ∀ g', (∀ j, j < N → g' j = nI (cut s f j)) → post g') : S_X4_forget N (nI s) g post := by
  intro E K hK hE
  apply hE
  have key := dn (P := fun u => ∀ g', (∀ j, j < N → g' j = nI (if j < u then cut s f j else f j)) → K (nI u) g') N (by
    intro g' hg
    apply hK
    refine hd_eq (h g' (fun j hj => ?_))
    rw [hg j hj, if_pos hj]) (by
    intro u hu ih g' hg
    apply hK
    refine hd_lt hu hN ⟨vp_in_nI hu hN, ?_⟩
    rw [cl31 (show u < 2 ^ 31 by omega), upd_same]
    have e := hg u hu
    rw [if_neg (by omega)] at e
    have b := (hf u hu).2
    rw [e]
    refine ⟨fun c => nx_i (ih g' (fun j hj => ?_)), fun c => nx_i (ih _ (fun j hj => ?_))⟩
    · have c' := (nI_leI b hs).mp c
      by_cases q : j = u
      · rw [q, e, if_pos (by omega)]; unfold cut; rw [if_pos c']
      · rw [hg j hj]
        by_cases q2 : j < u
        · rw [if_pos q2, if_pos (by omega)]
        · rw [if_neg q2, if_neg (by omega)]
    · have c' : ¬ f u ≤ s := fun q => c ((nI_leI b hs).mpr q)
      by_cases q : j = u
      · rw [q, upd_at, if_pos (by omega)]; unfold cut; rw [if_neg c']; rfl
      · rw [upd_ne q, hg j hj]
        by_cases q2 : j < u
        · rw [if_pos q2, if_pos (by omega)]
        · rw [if_neg q2, if_neg (by omega)])
  exact key 0 (by omega) g (fun j hj => by rw [if_neg (by omega)]; exact (hf j hj).1)
theorem li_8 (xs : Nat → Int32) (x4 : Int32) {mk : Int32} {nv : Int32} {na : Int32} {fbi : Nat → Int32} {fab : Nat → Int32} {fhd : Nat → Int32} {fin : Nat → Int64} {fjo : Nat → Int64} {fnu : Nat → Int32} {fre : Nat → Int64} {fse : Nat → Int32} {kv : Nat → NV} {fvf : Nat → Int32} {faf : Nat → Int32} {fla : Nat → Int64} {xth : Int32} {xnv : Int32} {xna : Int32} {xtl : Int32} {xmk : Int32} {gbi : Nat → Int32} {gab : Nat → Int32} {ghv : Nat → Int32} {gic : Nat → Int32} {gbe : Nat → Int32} {gmt : Nat → Int32} {gmv : Nat → Int32} {gma : Nat → Int32} {gnd : Nat → Int32} {gre : Nat → Int64} {gse : Nat → Int32} {glv : Nat → Int32} {gal : Nat → Int32} {gds : Nat → Int32} {gno : Nat → Int32} {gna : Nat → Int32} {gp3 : Nat → Int64} (hI : lawI mk nv na fbi fab fhd fin fjo fnu fre fse kv fvf faf fla xth xnv xna xtl xmk gbi gab ghv gic gbe gmt gmv gma gnd gre gse glv gal gds gno gna gp3) : T_law_8 xs x4 mk nv na fbi fab fhd fin fjo fnu fre fse kv fvf faf fla xth xnv xna xtl xmk gbi gab ghv gic gbe gmt gmv gma gnd gre gse glv gal gds gno gna gp3 lawI := by
  obtain ⟨n, k, t, m, bi, ab, th, tic, tbe, mt, mv, ma, e1, e2, e3, e4, e5, e6, e7, ok, b1, b2, b3, b4, rt, ft, mo⟩ := hI
  subst e1 e2 e3 e4 e5 e6 e7
  have o1 := ok.1
  have o2 := ok.2.1
  unfold T_law_8
  intro E hE
  apply hE
  intro E hE
  apply hE
  have m1 := mo.1
  refine ⟨fun c => ?_, fun c => ⟨rfl, ?_⟩⟩
  · have hm : 0 < m := (nI_ltI (a := 0) (by omega) (by omega)).mp c
    obtain ⟨j, rfl⟩ : ∃ j, m = j + 1 := ⟨m - 1, by omega⟩
    refine nm_r (nI_pred j) ⟨vp_in_nI (by omega) (by decide), ?_⟩
    rw [cl31 (show j < 2 ^ 31 by omega)]
    obtain ⟨h1, h2, h3, h4, h5⟩ := mo
    obtain ⟨k1, k2, k3, k4, k5, k6⟩ := h5 j (by omega)
    rw [k1, k2]
    have q3 := h3 j (by omega)
    refine sp_takeFrom (by omega) (by omega) (fun fb fa c0 c1 c2 c3 c4 c5 q1 q2 d0 d1 d2 d3 d4 d5 => ⟨v01, ?_⟩)
    intro E K hK hE
    apply hE
    refine ⟨fun q => absurd q (nI_nle (by omega) (by omega)), fun _ => go11 (gone (hK _ _ _ _ _ _ _ _ ?_))⟩
    refine nm_r (nI_pred j) ⟨vp_in_nI (by omega) (by decide), ?_⟩
    rw [cl31 (show j < 2 ^ 31 by omega), (h2 j (by omega)).1, (h2 j (by omega)).2.1, (h2 j (by omega)).2.2]
    refine nm_e (nm_e (nm_e ?_))
    have t9 := times_le rt.2
    obtain ⟨⟨a1, a2, a3⟩, t1, t2, t3, t4⟩ := rt
    refine sp_forget (by decide) (by omega) (fun i hi => ⟨a1 i hi, by have := t1 i hi; omega⟩) (fun ghv' e1 => ?_)
    refine sp_forget (by decide) (by omega) (fun i hi => ⟨a2 i hi, by have := t2 i hi; omega⟩) (fun gic' e2 => ?_)
    refine sp_forget (by decide) (by omega) (fun i hi => ⟨a3 i hi, by have := t3 i hi; omega⟩) (fun gbe' e3 => ?_)
    rw [nI_1]
    refine tail0 rfl ⟨mv j, ma j, mt j, j, bi, ab, cut (mt j) th, cut (mt j) tic, cut (mt j) tbe, mt, mv, ma, rfl, rfl, rfl, rfl, rfl, rfl, rfl, netOK_congr k5 d0 d1 d2 d3 d4 d5, biOK_congr k3 q1, biOK_congr k4 q2, fun v hv => b3 v (by omega), fun v hv => b4 v (by omega), ⟨⟨e1, e2, e3⟩, fun i _ => cut_le _ _ i, fun i _ => cut_le _ _ i, fun i _ => cut_le _ _ i, fun s hs1 hs2 => ?_⟩, ?_, ?_⟩
    · rcases t4 s hs1 (by omega) with r | r | r
      · exact Or.inl (cut_old hs2 r)
      · exact Or.inr (Or.inl (cut_old hs2 r))
      · exact Or.inr (Or.inr (cut_old hs2 r))
    · obtain ⟨f1, f2, f3⟩ := fit_congr k6 d0 d1 d2
      exact ⟨fun v a hv ha => by rw [cut_pos]; exact f1 v a hv ha, fun v a hv ha => by rw [cut_pos]; exact f2 v a hv ha, fun v a hv ha => by rw [cut_pos]; exact f3 v a hv ha⟩
    · refine ⟨by omega, fun i hi => h2 i (by omega), fun i hi => h4 i j hi (by omega), fun a b hab hb => h4 a b hab (by omega), fun i hi => ?_⟩
      obtain ⟨g1, g2, g3, g4, g5, g6⟩ := h5 i (by omega)
      exact ⟨g1, g2, g3, g4, g5, fit_cut (h4 i j hi (by omega)).1 g6⟩
  · have hm : m = 0 := by
      rcases Nat.eq_zero_or_pos m with q | q
      · exact q
      · exact absurd ((nI_ltI (a := 0) (by omega) (by omega)).mpr q) c
    intro E K hK hE
    apply hE
    refine ⟨fun _ => go01 (gzer (tail1 (by decide) ⟨n, k, t, m, bi, ab, th, tic, tbe, mt, mv, ma, rfl, rfl, rfl, rfl, rfl, rfl, rfl, ok, b1, b2, b3, b4, rt, ft, mo⟩)), fun q => absurd (by rw [hm]; decide) q⟩

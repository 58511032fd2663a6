/-! the reference's way -/
theorem sp_leads {n k v w : Nat} (hn : n ≤ 60) (hv : v < n) (hw : w < n) {ghv gic gbe fhd : Nat → Int32} {fin fjo : Nat → Int64} (rl : relT n k ghv gic gbe fhd fin fjo) {A B : Prop} (h0 : ¬ stepB n fin fjo v w → A) (h1 : stepB n fin fjo v w → B) : S_X4_leads (nI v) (nI w) gic gbe (fun r => (r = 0 → A) ∧ (¬ r = 0 → B)) := by
  intro E hE
  apply hE
  rw [ix60, cl31 (show 60 * v + w < 2 ^ 31 by omega)]
  refine ⟨vp_in_nI (by omega) (by decide), fun c => ?_, fun c => ⟨fun c2 => ?_, fun c2 => ?_⟩⟩
  · exact gone' (h1 ⟨hv, Or.inl ((rl.2.1 v w hv hw).mpr (Int32.not_le.mpr c))⟩)
  · refine gzer' (h0 ?_)
    rintro ⟨_, q | q⟩
    · exact absurd (Int32.not_le.mp ((rl.2.1 v w hv hw).mp q)) c
    · exact absurd c2 ((rl.2.2 v w hv hw).mp q)
  · exact gone' (h1 ⟨hv, Or.inr ((rl.2.2 v w hv hw).mpr c2)⟩)
/-- distances below a bound are known -/
def dst (E : Nat → Nat → Prop) (H : Nat → Prop) (b u : Nat) (x : Int32) : Prop := (∃ c, isD E H u c ∧ x = nI (c + 1) ∧ c + 1 < b) ∨ (x = 0 ∧ ∀ c, c + 1 < b → ¬ isD E H u c)
theorem dst_eq {E : Nat → Nat → Prop} {H : Nat → Prop} {n b d u : Nat} (hn : n ≤ 60) (hb : ∀ u c, isD E H u c → c + 1 ≤ n) {x : Int32} (hd : d + 1 < b) (hd60 : d ≤ 60) (h : dst E H b u x) : x = nI (d + 1) ↔ isD E H u d := by
  rcases h with ⟨c, h1, h2, h3⟩ | ⟨h1, h2⟩
  · have := hb u c h1
    rw [h2, nI_eq (by omega) (by omega)]
    constructor
    · intro e
      have : c = d := by omega
      rw [← this]; exact h1
    · intro q
      rw [isD_uniq h1 q]
  · rw [h1]
    constructor
    · intro e
      exact absurd e.symm (nI_ne0 (by omega) (by omega))
    · intro q
      exact absurd q (h2 d hd)
theorem sp_findDistances {n k a : Nat} (hn : n ≤ 60) (hn1 : 1 ≤ n) (ha : a < k) (hk : k ≤ 32) {ghv gic gbe gds fhd : Nat → Int32} {fin fjo : Nat → Int64} (rl : relT n k ghv gic gbe fhd fin fjo) (hlt : ∀ x y, stepB n fin fjo x y → y < n) {post : (Nat → Int32) → Prop}
    (h : ∀ g, (∀ u, u < n → (∃ c, isD (stepB n fin fjo) (hdA n a fhd) u c ∧ g u = nI (c + 1)) ∨ (g u = 0 ∧ ∀ c, ¬ isD (stepB n fin fjo) (hdA n a fhd) u c)) → post g) : S_X4_findDistances (nI a) (nI n) ghv gic gbe gds post := by
  have hb : ∀ u c, isD (stepB n fin fjo) (hdA n a fhd) u c → c + 1 ≤ n := fun u c q => isD_bound (n := n) (fun x y e => e.1) (fun x e => e.1) q
  generalize hEE : stepB n fin fjo = EE at h hb hlt
  generalize hHH : hdA n a fhd = HH at h hb
  intro E K2 K43 K53 K64 h2 h43 h53 h64 hE
  apply hE
  have rounds := dn (P := fun d => 2 ≤ d → ∀ g, (∀ u, u < n → dst EE HH d u (g u)) → K43 (nI d) g) (n + 1) (by
    intro _ g hg
    apply h43
    refine ⟨fun _ => h g (fun u hu => ?_), fun c => absurd ((nI_ltI (by omega) (by omega)).mpr (by omega)) c⟩
    rcases hg u hu with ⟨c, q1, q2, _⟩ | ⟨q1, q2⟩
    · exact Or.inl ⟨c, q1, q2⟩
    · refine Or.inr ⟨q1, fun c qc => q2 c (by have := hb u c qc; omega) qc⟩) (by
    intro d hd ih hd2 g0 hg0
    apply h43
    refine ⟨fun c => absurd ((nI_ltI (by omega) (by omega)).mp c) (by omega), fun _ => ?_⟩
    have mid := dn (P := fun v => ∀ g, (∀ u, u < n → dst EE HH (if u < v then d + 1 else d) u (g u)) → K53 (nI d) (nI v) g) n (by
      intro g hg
      apply h53
      refine hd_eq (nx_i (ih (by omega) g (fun u hu => ?_)))
      have := hg u hu
      rw [if_pos hu] at this
      exact this) (by
      intro v hv ihv g hg
      apply h53
      refine hd_lt hv (by omega) ?_
      -- to the next variable
      have nxt : ∀ g', (∀ u, u < n → u ≠ v → g' u = g u) → dst EE HH (d + 1) v (g' v) → ∀ y : Int32, y = nI v + 1 → K53 (nI d) y g' := by
        intro g' he hv'
        refine nx_i (ihv g' (fun u hu => ?_))
        by_cases e : u = v
        · rw [e, if_pos (by omega)]; exact hv'
        · rw [he u hu e]
          have := hg u hu
          by_cases q : u < v
          · rw [if_pos q] at this; rw [if_pos (by omega)]; exact this
          · rw [if_neg q] at this; rw [if_neg (by omega)]; exact this
      have gv := hg v hv
      rw [if_neg (Nat.lt_irrefl v)] at gv
      -- a neighbour's distance
      have nb : ∀ w, w < n → (g w = nI (d - 1) ↔ isD EE HH w (d - 2)) := by
        intro w hw
        have := hg w hw
        have e := dst_eq (d := d - 2) hn hb (by split <;> omega) (by omega) this
        rw [show d - 2 + 1 = d - 1 by omega] at e
        exact e
      have cv := cl31 (show v < 2 ^ 31 by omega)
      rcases gv with ⟨c, q1, q2, q3⟩ | ⟨q1, q2⟩
      · apply h64
        refine hd_lt (n := n) (u := 0) (by omega) (by omega) ⟨in60 (by omega), fun _ => ?_, fun c0 => ?_⟩
        · exact nxt g (fun _ _ _ => rfl) (Or.inl ⟨c, q1, q2, by omega⟩)
        · rw [cv, q2] at c0
          exact absurd c0 (nI_ne0 (by omega) (by have := hb v c q1; omega))
      · have far : ∀ c, c < d - 1 → ¬ ldn EE HH c v := by
          intro c hc q
          obtain ⟨c', h1, h3⟩ := isD_ex q
          exact q2 c' (by omega) h3
        have inn := dn (P := fun w => ∀ g', (∀ u, u < n → u ≠ v → g' u = g u) → g' v = 0 → (∀ w', w' < w → ¬ (EE v w' ∧ isD EE HH w' (d - 2))) → K64 (nI d) (nI v) (nI w) g') n (by
          intro g' he hz hno
          apply h64
          refine hd_eq (nxt g' he (Or.inr ⟨hz, fun c hc qc => ?_⟩))
          rcases Nat.lt_or_ge (c + 1) d with r | r
          · exact q2 c r qc
          · have ec : c = (d - 2) + 1 := by omega
            rw [ec] at qc
            obtain ⟨w, e1, e2⟩ := isD_pred qc
            exact hno w (hlt v w e1) ⟨e1, e2⟩) (by
          intro w hw ihw g' he hz hno
          apply h64
          refine hd_lt hw (by omega) ⟨in60 (by omega), fun c => absurd (by rw [cv]; exact hz) c, fun _ => ?_⟩
          have same : upd g' v 0 = g' := by rw [← hz, upd_same]
          rw [cv, same]
          have hno' : ¬ (EE v w ∧ isD EE HH w (d - 2)) → ∀ w', w' < w + 1 → ¬ (EE v w' ∧ isD EE HH w' (d - 2)) := by
            intro q w' hw'
            by_cases e : w' = w
            · rw [e]; exact q
            · exact hno w' (by omega)
          refine sp_leads hn hv hw rl (fun c => ?_) (fun c => ?_)
          · rw [hEE] at c
            exact nx_i (ihw g' he hz (hno' (fun q => c q.1)))
          · rw [hEE] at c
            refine ⟨in60 (by omega), ?_⟩
            rw [cl31 (show w < 2 ^ 31 by omega), show nI d - 1 = nI (d - 1) from by rw [show d = (d - 1) + 1 by omega, nI_pred]; rfl]
            by_cases e : w = v
            · -- its own distance is not known
              have zz : ¬ g' w = nI (d - 1) := by rw [e, hz]; intro q; exact absurd q.symm (nI_ne0 (by omega) (by omega))
              refine ⟨fun _ => nx_i (ihw g' he hz (hno' (fun q => ?_))), fun q => absurd q zz⟩
              rw [e] at q
              exact q2 (d - 2) (by omega) q.2
            · rw [he w hw e]
              refine ⟨fun c2 => nx_i (ihw g' he hz (hno' (fun q => c2 ((nb w hw).mpr q.2)))), fun c2 => nx_i ?_⟩
              have hDw := (nb w hw).mp c2
              have hDv : isD EE HH v (d - 1) := ⟨by rw [show d - 1 = (d - 2) + 1 by omega]; exact ⟨w, c, hDw.1⟩, far⟩
              -- found: the loop ends
              have ends : ∀ x, x ≤ n → K64 (nI d) (nI v) (nI x) (upd g' v (nI d)) := by
                intro x hx
                apply h64
                have fin : ∀ y : Int32, y = nI v + 1 → K53 (nI d) y (upd g' v (nI d)) := nxt _ (fun u hu hne => by rw [upd_ne hne]; exact he u hu hne) (Or.inl ⟨d - 1, hDv, by rw [upd_at, show d - 1 + 1 = d by omega], by omega⟩)
                refine ⟨fun _ => fin, fun _ => ⟨in60 (by omega), fun _ => fin, fun q => ?_⟩⟩
                rw [cv, upd_at] at q
                exact absurd q (nI_ne0 (by omega) (by omega))
              exact ends (w + 1) (by omega))
        exact inn 0 (by omega) g (fun _ _ _ => rfl) q1 (fun w' hw' => absurd hw' (by omega)))
    refine mid 0 (by omega) g0 (fun u hu => ?_)
    rw [if_neg (by omega)]
    exact hg0 u hu)
  have ini := dn (P := fun v => ∀ g, (∀ u, u < v → dst EE HH 2 u (g u)) → K2 (nI v) g) n (by
    intro g hg
    apply h2
    exact hd_eq (rounds 2 (by omega) (by omega) g hg)) (by
    intro v hv ih g hg
    apply h2
    refine hd_lt hv (by omega) ?_
    rw [ix32, cl31 (show 32 * v + a < 2 ^ 31 by omega), cl31 (show v < 2 ^ 31 by omega)]
    have hhd : HH v ↔ ti (fhd v) a = true := by rw [← hHH]; exact ⟨fun q => q.2, fun q => ⟨hv, q⟩⟩
    refine ⟨vp_in_nI (by omega) (by decide), fun c => ⟨in60 (by omega), nx_i (ih _ (fun u hu => ?_))⟩, fun c => ⟨in60 (by omega), nx_i (ih _ (fun u hu => ?_))⟩⟩
    · by_cases e : u = v
      · rw [e, upd_at]
        refine Or.inr ⟨rfl, fun c' hc' q => ?_⟩
        have : c' = 0 := by omega
        rw [this] at q
        exact absurd c ((rl.1 v a hv ha).mp (hhd.mp q.1))
      · rw [upd_ne e]; exact hg u (by omega)
    · by_cases e : u = v
      · rw [e, upd_at]
        exact Or.inl ⟨0, ⟨hhd.mpr ((rl.1 v a hv ha).mpr c), fun c' hc' => absurd hc' (by omega)⟩, rfl, by omega⟩
      · rw [upd_ne e]; exact hg u (by omega))
  exact ini 0 (by omega) gds (fun u hu => absurd hu (by omega))
/-- the answer of 'way' -/
def wyV (n a : Nat) (fhd : Nat → Int32) (fin fjo : Nat → Int64) (v : Nat) (p val : Int32) : Prop :=
  ((∀ c, ¬ isD (stepB n fin fjo) (hdA n a fhd) v c) → (p = -1 → val = 0) ∧ (¬ p = -1 → val = -1)) ∧
  (∀ D, isD (stepB n fin fjo) (hdA n a fhd) v D → (p = -1 → val = nI (D + 1)) ∧ (¬ p = -1 → (∀ j, j ≤ D → p = nI j → ∀ u, wy (stepB n fin fjo) (hdA n a fhd) D v j u → val = nI u) ∧ ((∀ j, j ≤ D → ¬ p = nI j) → val = -1)))
theorem sp_wayR {n k v a : Nat} {p xth val : Int32} (hn : n ≤ 60) (hk : k ≤ 32) (hv : v < n) (ha : a < k) {ghv gic gbe gds fhd : Nat → Int32} {fin fjo : Nat → Int64} (rl : relT n k ghv gic gbe fhd fin fjo) (hlt : ∀ x y, stepB n fin fjo x y → y < n) (hval : wyV n a fhd fin fjo v p val) {post : Int32 → Int32 → (Nat → Int32) → Prop}
    (h : ∀ g, post val 0 g) : S_X4_way (nI v) (nI a) p xth (nI n) (nI k) ghv gic gbe gds post := by
  obtain ⟨v0, v1⟩ := hval
  have hb : ∀ u c, isD (stepB n fin fjo) (hdA n a fhd) u c → c + 1 ≤ n := fun u c q => isD_bound (n := n) (fun x y e => e.1) (fun x e => e.1) q
  intro E K31 K70 K79 h31 h70 h79 hE
  apply hE
  refine isV_ok hv hn (gone' (isA_ok ha hk (gone' (go11 (gone (h31 _ _ ?_))))))
  refine sp_findDistances hn (by omega) ha hk rl hlt (fun g hg => ?_)
  have cv := cl31 (show v < 2 ^ 31 by omega)
  rw [cv]
  rcases hg v hv with ⟨D, hD, eg⟩ | ⟨eg, hno⟩
  · have hbD := hb v D hD
    obtain ⟨w0, w1⟩ := v1 D hD
    rw [eg]
    refine ⟨fun c => ⟨fun c2 => ?_, fun c2 => ⟨in60 (by omega), fun c3 => ?_, fun c3 => ?_⟩⟩, fun c => ⟨in60 (by omega), by rw [← w0 c]; exact h g⟩⟩
    · rw [← (w1 c).2 (fun j hj e => by rw [e] at c2; exact nI_pos (by omega) c2)]; exact h g
    · obtain ⟨j, hj, rfl⟩ := nI_of c2
      have hjD : j < D + 1 := (nI_ltI hj (by omega)).mp c3
      have val' := (w1 c).1 j (by omega) rfl
      have dw : ∀ w, w < n → ∀ d, d ≤ 60 → (g w = nI (d + 1) ↔ isD (stepB n fin fjo) (hdA n a fhd) w d) := by
        intro w hw d hd
        rcases hg w hw with ⟨c, q1, q2⟩ | ⟨q1, q2⟩
        · have := hb w c q1
          rw [q2, nI_eq (by omega) (by omega)]
          constructor
          · intro e
            have : c = d := by omega
            rw [← this]; exact q1
          · intro q; rw [isD_uniq q1 q]
        · rw [q1]
          exact ⟨fun e => absurd e.symm (nI_ne0 (by omega) (by omega)), fun q => absurd q (q2 d)⟩
      have key := dn (P := fun s => ∀ w, wy (stepB n fin fjo) (hdA n a fhd) D v s w → isD (stepB n fin fjo) (hdA n a fhd) w (D - s) → K70 (nI w) (nI s) 0 g) j (by
        intro w hw hd
        apply h70
        refine hd_eq ?_
        rw [← val' w hw]; exact h g) (by
        intro s hs ih w hw hd
        have hwn := isD_lt (n := n) (fun x y e => e.1) (fun x e => e.1) hd
        apply h70
        refine hd_lt hs hj ?_
        have eD : D - s = (D - (s + 1)) + 1 := by omega
        have egw := (dw w hwn (D - s) (by omega)).mpr hd
        rw [eD] at hd egw
        obtain ⟨x, hx⟩ := isNext_ex hd
        have hxn := hlt w x hx.1
        have scan := dn (P := fun y => K79 (nI w) (nI s) (nI y) 0 g) x (by
          apply h79
          refine sp_leads hn hwn hxn rl (fun c => absurd hx.1 c) (fun _ => ⟨in60 (by omega), in60 (by omega), ?_⟩)
          rw [cl31 (show x < 2 ^ 31 by omega), cl31 (show w < 2 ^ 31 by omega), egw, nI_pred, dw x hxn _ (by omega)]
          exact ⟨fun _ => nx_i (ih x ⟨w, hw, hx⟩ hx.2.1), fun q => absurd hx.2.1 q⟩) (by
          intro y hy ihy
          apply h79
          refine sp_leads hn hwn (show y < n by omega) rl (fun c => nx_i ihy) (fun c => ⟨in60 (by omega), in60 (by omega), ?_⟩)
          rw [cl31 (show y < 2 ^ 31 by omega), cl31 (show w < 2 ^ 31 by omega), egw, nI_pred, dw y (by omega) _ (by omega)]
          exact ⟨fun q => absurd ⟨c, q⟩ (hx.2.2 y hy), fun _ => nx_i ihy⟩)
        exact scan 0 (by omega))
      exact key 0 (by omega) v rfl hD
    · rw [← (w1 c).2 (fun j hj e => by rw [e] at c3; exact c3 ((nI_ltI (by omega) (by omega)).mpr (by omega)))]; exact h g
  · obtain ⟨w0, w1⟩ := v0 hno
    rw [eg]
    refine ⟨fun c => ⟨fun c2 => ?_, fun c2 => ⟨in60 (by omega), fun c3 => absurd c3 c2, fun c3 => ?_⟩⟩, fun c => ⟨in60 (by omega), ?_⟩⟩
    · rw [← w1 c]; exact h g
    · rw [← w1 c]; exact h g
    · rw [w0 c] at h; exact h g
theorem li_14 (xs : Nat → Int32) (x4 : Int32) {mk : Int32} {nv : Int32} {na : Int32} {fbi : Nat → Int32} {fab : Nat → Int32} {fhd : Nat → Int32} {fin : Nat → Int64} {fjo : Nat → Int64} {fnu : Nat → Int32} {fre : Nat → Int64} {fse : Nat → Int32} {kv : Nat → NV} {fvf : Nat → Int32} {faf : Nat → Int32} {fla : Nat → Int64} {xth : Int32} {xnv : Int32} {xna : Int32} {xtl : Int32} {xmk : Int32} {gbi : Nat → Int32} {gab : Nat → Int32} {ghv : Nat → Int32} {gic : Nat → Int32} {gbe : Nat → Int32} {gmt : Nat → Int32} {gmv : Nat → Int32} {gma : Nat → Int32} {gnd : Nat → Int32} {gre : Nat → Int64} {gse : Nat → Int32} {glv : Nat → Int32} {gal : Nat → Int32} {gds : Nat → Int32} {gno : Nat → Int32} {gna : Nat → Int32} {gp3 : Nat → Int64} (hI : lawI mk nv na fbi fab fhd fin fjo fnu fre fse kv fvf faf fla xth xnv xna xtl xmk gbi gab ghv gic gbe gmt gmv gma gnd gre gse glv gal gds gno gna gp3) : T_law_14 xs x4 mk nv na fbi fab fhd fin fjo fnu fre fse kv fvf faf fla xth xnv xna xtl xmk gbi gab ghv gic gbe gmt gmv gma gnd gre gse glv gal gds gno gna gp3 lawI := by
  obtain ⟨n, k, t, m, bi, ab, th, tic, tbe, mt, mv, ma, e1, e2, e3, e4, e5, e6, e7, ok, b1, b2, b3, b4, rt, ft, mo⟩ := hI
  subst e1 e2 e3 e4 e5 e6 e7
  have o1 := ok.1
  have o2 := ok.2.1
  unfold T_law_14
  generalize xs (x4 + 1).toNatClampNeg = x
  generalize xs (x4 + 2).toNatClampNeg = z
  generalize xs (x4 + 3).toNatClampNeg = p
  have stay : ∀ fla xth gds gp3, lawI (nI m) (nI n) (nI k) fbi fab fhd fin fjo fnu fre fse kv fvf faf fla xth (nI n) (nI k) (nI t) (nI m) gbi gab ghv gic gbe gmt gmv gma gnd gre gse glv gal gds gno gna gp3 := fun _ _ _ _ => ⟨n, k, t, m, bi, ab, th, tic, tbe, mt, mv, ma, rfl, rfl, rfl, rfl, rfl, rfl, rfl, ok, b1, b2, b3, b4, rt, ft, mo⟩
  intro E hE
  apply hE
  intro E hE
  apply hE
  rcases ixs x (n := n) (by omega) with ⟨v, hv, rfl⟩ | hx
  · refine reqV_ok hv o1 ?_
    rcases ixs z (n := k) (by omega) with ⟨a, ha, rfl⟩ | hz
    · refine reqA_ok ha o2 ?_
      have rl := RT_relT o1 o2 rt ft
      have hlt := stepB_lt ok.2.2.2.1 ok.2.2.2.2.1
      have hse : ti (fse v) a = true ↔ ∃ d, ldn (stepB n fin fjo) (hdA n a fhd) d v := by
        rw [ok.2.2.2.2.2.2.1 v hv a]
        constructor
        · rintro ⟨u, h1, h2⟩
          have hu := rch_lt hlt hv h1
          obtain ⟨d, hd⟩ := h1
          exact ⟨d, (ldn_path d v).mpr ⟨u, hd, hu, h2⟩⟩
        · rintro ⟨d, hd⟩
          obtain ⟨u, h1, h2⟩ := (ldn_path d v).mp hd
          exact ⟨u, ⟨d, h1⟩, h2.2⟩
      have rest : ∀ val fla', wyV n a fhd fin fjo v p val → S_X4_way (nI v) (nI a) p xth (nI n) (nI k) ghv gic gbe gds (fun r4 xth_5 gds_6 => S_X4_thrown xth_5 (fun r7 => (r7 = 0 → ((¬ (0 : Int32) = 0 → (lawI (nI m) (nI n) (nI k) fbi fab fhd fin fjo fnu fre fse kv fvf faf fla' xth_5 (nI n) (nI k) (nI t) (nI m) gbi gab ghv gic gbe gmt gmv gma gnd gre gse glv gal gds_6 gno gna (vp_updL gp3 (0 : Int32).toNatClampNeg val.toInt64))) ∧ ((0 : Int32) = 0 → (vp_in 0 1 ∧ (((lg_cmp ((vp_updL gp3 (0 : Int32).toNatClampNeg val.toInt64) (0 : Int32).toNatClampNeg) (r4.toInt64)) = 0 → (lawI (nI m) (nI n) (nI k) fbi fab fhd fin fjo fnu fre fse kv fvf faf fla' xth_5 (nI n) (nI k) (nI t) (nI m) gbi gab ghv gic gbe gmt gmv gma gnd gre gse glv gal gds_6 gno gna (vp_updL gp3 (0 : Int32).toNatClampNeg val.toInt64))) ∧ (¬ (lg_cmp ((vp_updL gp3 (0 : Int32).toNatClampNeg val.toInt64) (0 : Int32).toNatClampNeg) (r4.toInt64)) = 0 → (False))))))) ∧ (¬ r7 = 0 → (False)))) :=
        fun val fla' hval => sp_wayR o1 o2 hv ha rl hlt hval (fun g => tail0 rfl (stay _ _ _ _))
      refine sp_lengthFrom o1 hv (by omega) hse (fun hno => ?_) (fun D hD fla' hf => ?_)
      · have absD : ∀ {P : Prop} {D}, isD (stepB n fin fjo) (hdA n a fhd) v D → P := fun q => absurd q (hno _)
        refine ⟨fun c => ⟨fun c2 => ⟨v01, rest _ _ ⟨fun _ => ⟨fun q => absurd q c, fun _ => rfl⟩, fun D q => absD q⟩⟩, fun c2 => ⟨fun c3 => absurd c3 c2, fun c3 => ⟨v01, rest _ _ ⟨fun _ => ⟨fun q => absurd q c, fun _ => rfl⟩, fun D q => absD q⟩⟩⟩⟩, fun c => ⟨v01, rest _ _ ⟨fun _ => ⟨fun _ => rfl, fun q => absurd c q⟩, fun D q => absD q⟩⟩⟩
      · have hbD := isD_bound (n := n) (fun x y e => e.1) (fun x e => e.1) hD
        have one : ∀ {D'}, isD (stepB n fin fjo) (hdA n a fhd) v D' → D' = D := fun q => isD_uniq q hD
        refine ⟨fun c => ⟨fun c2 => ⟨v01, rest _ _ ⟨fun q => absurd hD (q D), fun D' hD' => ⟨fun q => absurd q c, fun _ => ⟨fun j hj e => ?_, fun _ => rfl⟩⟩⟩⟩, fun c2 => ⟨fun c3 => ?_, fun c3 => ⟨v01, rest _ _ ⟨fun q => absurd hD (q D), fun D' hD' => ⟨fun q => absurd q c, fun _ => ⟨fun j hj e => ?_, fun _ => rfl⟩⟩⟩⟩⟩⟩, fun c => ⟨v01, rest _ _ ⟨fun q => absurd hD (q D), fun D' hD' => ⟨fun _ => by rw [one hD'], fun q => absurd c q⟩⟩⟩⟩
        · have := one hD'
          rw [e] at c2
          exact absurd c2 (nI_pos (by omega))
        · obtain ⟨j, hj, rfl⟩ := nI_of c2
          have hjD : j < D + 1 := (nI_ltI hj (by omega)).mp c3
          refine sp_variableAt o1 (fun x e => e.1) hlt hD hf (by omega) (fun u hu => ⟨v01, rest _ _ ⟨fun q => absurd hD (q D), fun D' hD' => ⟨fun q => absurd q c, fun _ => ⟨fun j' hj' e u' hu' => ?_, fun q => absurd rfl (q j (by rw [one hD']; omega))⟩⟩⟩⟩)
          have e1 := one hD'
          subst e1
          have e2 : j = j' := (nI_eq hj (by omega)).mp e
          subst e2
          rw [wy_uniq j u u' hu hu']
        · have := one hD'
          rw [e] at c3
          exact absurd ((nI_ltI (by omega) (by omega)).mpr (by omega)) c3
    · refine reqA_bad hz ⟨rfl, ?_⟩
      intro E K31 K70 K79 h31 h70 h79 hE
      apply hE
      exact isV_ok hv o1 (gone' (isA_bad hz (gzer' (go01 (gzer (tail1 (by decide) (stay _ _ _ _)))))))
  · refine reqV_bad hx ⟨rfl, ?_⟩
    intro E K31 K70 K79 h31 h70 h79 hE
    apply hE
    exact isV_bad hx (gzer' (go01 (gzer (tail1 (by decide) (stay _ _ _ _)))))

/-! bits of long and int, counting, loops: pure rows -/
def tl (x : Int64) (i : Nat) : Bool := x.toBitVec.getLsbD i
def ti (x : Int32) (i : Nat) : Bool := x.toBitVec.getLsbD i
theorem tl_ext {x y : Int64} (h : ∀ i, i < 64 → tl x i = tl y i) : x = y := Int64.toBitVec_inj.mp (BitVec.eq_of_getLsbD_eq (fun i hi => h i hi))
theorem ti_ext {x y : Int32} (h : ∀ i, i < 32 → ti x i = ti y i) : x = y := Int32.toBitVec_inj.mp (BitVec.eq_of_getLsbD_eq (fun i hi => h i hi))
theorem tl_or (x y : Int64) (i : Nat) : tl (x ||| y) i = (tl x i || tl y i) := by unfold tl; rw [Int64.toBitVec_or, BitVec.getLsbD_or]
theorem ti_or (x y : Int32) (i : Nat) : ti (x ||| y) i = (ti x i || ti y i) := by unfold ti; rw [Int32.toBitVec_or, BitVec.getLsbD_or]
theorem tl_and (x y : Int64) (i : Nat) : tl (x &&& y) i = (tl x i && tl y i) := by unfold tl; rw [Int64.toBitVec_and, BitVec.getLsbD_and]
theorem ti_and (x y : Int32) (i : Nat) : ti (x &&& y) i = (ti x i && ti y i) := by unfold ti; rw [Int32.toBitVec_and, BitVec.getLsbD_and]
theorem tl_big {x : Int64} {i : Nat} (h : 64 ≤ i) : tl x i = false := BitVec.getLsbD_of_ge _ _ h
theorem ti_big {x : Int32} {i : Nat} (h : 32 ≤ i) : ti x i = false := BitVec.getLsbD_of_ge _ _ h
theorem tl_lt {x : Int64} {i : Nat} (h : tl x i = true) : i < 64 := by
  rcases Nat.lt_or_ge i 64 with q | q
  · exact q
  · rw [tl_big q] at h; cases h
theorem ti_lt {x : Int32} {i : Nat} (h : ti x i = true) : i < 32 := by
  rcases Nat.lt_or_ge i 32 with q | q
  · exact q
  · rw [ti_big q] at h; cases h
theorem tl_0 (i : Nat) : tl 0 i = false := BitVec.getLsbD_zero
theorem ti_0 (i : Nat) : ti 0 i = false := BitVec.getLsbD_zero
theorem tl_m1 : ∀ i, i < 64 → tl (-1) i = true := by decide +kernel
theorem ti_m1 : ∀ i, i < 32 → ti (-1) i = true := by decide +kernel
theorem tl_not (x : Int64) {i : Nat} (h : i < 64) : tl (x ^^^ (-1)) i = !tl x i := by
  have e := tl_m1 i h
  unfold tl at e ⊢
  rw [Int64.toBitVec_xor, BitVec.getLsbD_xor, e]
  cases x.toBitVec.getLsbD i <;> rfl
theorem ti_not (x : Int32) {i : Nat} (h : i < 32) : ti (x ^^^ (-1)) i = !ti x i := by
  have e := ti_m1 i h
  unfold ti at e ⊢
  rw [Int32.toBitVec_xor, BitVec.getLsbD_xor, e]
  cases x.toBitVec.getLsbD i <;> rfl
theorem tl_bit {k : Nat} (hk : k < 64) (i : Nat) : tl ((1 : Int64) <<< ((nI k).toInt64 &&& 63)) i = decide (i = k) := by
  rcases Nat.lt_or_ge i 64 with h | h
  · exact (by decide +kernel : ∀ k, k < 64 → ∀ i, i < 64 → tl ((1 : Int64) <<< ((nI k).toInt64 &&& 63)) i = decide (i = k)) k hk i h
  · rw [tl_big h, decide_eq_false (by omega)]
theorem ti_bit {k : Nat} (hk : k < 32) (i : Nat) : ti ((1 : Int32) <<< (nI k &&& 31)) i = decide (i = k) := by
  rcases Nat.lt_or_ge i 32 with h | h
  · exact (by decide +kernel : ∀ k, k < 32 → ∀ i, i < 32 → ti ((1 : Int32) <<< (nI k &&& 31)) i = decide (i = k)) k hk i h
  · rw [ti_big h, decide_eq_false (by omega)]
theorem sl64 : ∀ n, n < 64 → (((nI n).toInt64 &&& 63).toBitVec.smod 64).toNat = n := by decide +kernel
theorem su64 : ∀ n, n < 64 → (((nI n).toInt64.toUInt64 &&& Int64.toUInt64 63).toBitVec % 64).toNat = n := by decide +kernel
theorem sl32 : ∀ n, n < 32 → ((nI n &&& 31).toBitVec.smod 32).toNat = n := by decide +kernel
theorem su32 : ∀ n, n < 32 → (((nI n).toUInt32 &&& Int32.toUInt32 31).toBitVec % 32).toNat = n := by decide +kernel
theorem tl_ushr {n : Nat} (hn : n < 64) (x : Int64) (i : Nat) : tl ((x.toUInt64 >>> ((nI n).toInt64.toUInt64 &&& Int64.toUInt64 63)).toInt64) i = tl x (n + i) := by
  show (x.toUInt64 >>> ((nI n).toInt64.toUInt64 &&& Int64.toUInt64 63)).toBitVec.getLsbD i = x.toUInt64.toBitVec.getLsbD (n + i)
  rw [UInt64.toBitVec_shiftRight]
  show (x.toUInt64.toBitVec >>> (((nI n).toInt64.toUInt64 &&& Int64.toUInt64 63).toBitVec % 64).toNat).getLsbD i = _
  rw [su64 n hn, BitVec.getLsbD_ushiftRight]
theorem ti_ushr {n : Nat} (hn : n < 32) (x : Int32) (i : Nat) : ti ((x.toUInt32 >>> ((nI n).toUInt32 &&& Int32.toUInt32 31)).toInt32) i = ti x (n + i) := by
  show (x.toUInt32 >>> ((nI n).toUInt32 &&& Int32.toUInt32 31)).toBitVec.getLsbD i = x.toUInt32.toBitVec.getLsbD (n + i)
  rw [UInt32.toBitVec_shiftRight]
  show (x.toUInt32.toBitVec >>> (((nI n).toUInt32 &&& Int32.toUInt32 31).toBitVec % 32).toNat).getLsbD i = _
  rw [su32 n hn, BitVec.getLsbD_ushiftRight]
theorem tl_sshr0 {n : Nat} (hn : n < 64) (x : Int64) : tl (x >>> ((nI n).toInt64 &&& 63)) 0 = tl x n := by
  unfold tl
  rw [Int64.toBitVec_shiftRight]
  show (x.toBitVec.sshiftRight (((nI n).toInt64 &&& 63).toBitVec.smod 64).toNat).getLsbD 0 = _
  rw [sl64 n hn, BitVec.getLsbD_sshiftRight]
  simp [hn]
theorem ti_sshr0 {n : Nat} (hn : n < 32) (x : Int32) : ti (x >>> (nI n &&& 31)) 0 = ti x n := by
  unfold ti
  rw [Int32.toBitVec_shiftRight]
  show (x.toBitVec.sshiftRight ((nI n &&& 31).toBitVec.smod 32).toNat).getLsbD 0 = _
  rw [sl32 n hn, BitVec.getLsbD_sshiftRight]
  simp [hn]
theorem tl_1 : ∀ i, i < 64 → tl 1 i = decide (i = 0) := by decide +kernel
theorem ti_1 : ∀ i, i < 32 → ti 1 i = decide (i = 0) := by decide +kernel
/-- the low bit alone -/
theorem tl_low (x : Int64) : x &&& 1 = if tl x 0 then 1 else 0 := by
  apply tl_ext
  intro i hi
  rw [tl_and, tl_1 i hi]
  by_cases h : i = 0
  · subst h
    cases q : tl x 0
    · simp [tl_0]
    · simp [tl_1]
  · cases q : tl x 0
    · simp [tl_0, h]
    · simp [tl_1 i hi, h]
theorem ti_low (x : Int32) : x &&& 1 = if ti x 0 then 1 else 0 := by
  apply ti_ext
  intro i hi
  rw [ti_and, ti_1 i hi]
  by_cases h : i = 0
  · subst h
    cases q : ti x 0
    · simp [ti_0]
    · simp [ti_1]
  · cases q : ti x 0
    · simp [ti_0, h]
    · simp [ti_1 i hi, h]
theorem lc_eq {x y : Int64} : lg_cmp x y = 0 ↔ x = y := by
  unfold lg_cmp
  by_cases h : x > y
  · rw [if_pos h]
    exact ⟨fun q => absurd q (by decide), fun q => absurd h (by rw [q]; exact Int64.lt_irrefl)⟩
  · rw [if_neg h]
    by_cases h2 : x = y
    · rw [if_pos h2]; exact ⟨fun _ => h2, fun _ => rfl⟩
    · rw [if_neg h2]; exact ⟨fun q => absurd q (by decide), fun q => absurd q h2⟩
/-- the class's bit test -/
theorem tl_has (x : Int64) {k : Nat} (hk : k < 64) : lg_cmp (((x.toUInt64 >>> ((nI k).toInt64.toUInt64 &&& Int64.toUInt64 63)).toInt64) &&& 1) 0 = 0 ↔ tl x k = false := by
  rw [lc_eq, tl_low, tl_ushr hk, Nat.add_zero]
  cases tl x k <;> simp
theorem ti_has (x : Int32) {k : Nat} (hk : k < 32) : (((x.toUInt32 >>> ((nI k).toUInt32 &&& Int32.toUInt32 31)).toInt32) &&& 1) = if ti x k then 1 else 0 := by
  rw [ti_low, ti_ushr hk, Nat.add_zero]
/-- the reference's bit tests -/
theorem tl_sar (x : Int64) {k : Nat} (hk : k < 64) : ((x >>> ((nI k).toInt64 &&& 63)) &&& 1) = if tl x k then 1 else 0 := by
  rw [tl_low, tl_sshr0 hk]
theorem ti_sar (x : Int32) {k : Nat} (hk : k < 32) : ((x >>> (nI k &&& 31)) &&& 1) = if ti x k then 1 else 0 := by
  rw [ti_low, ti_sshr0 hk]
/-- no bit: zero -/
theorem tl_none {x : Int64} : x = 0 ↔ ∀ i, i < 64 → tl x i = false :=
  ⟨fun h i _ => by rw [h, tl_0], fun h => tl_ext (fun i hi => by rw [h i hi, tl_0])⟩
/-! counting -/
def cn (f : Nat → Bool) : Nat → Nat
  | 0 => 0
  | n + 1 => cn f n + (if f n then 1 else 0)
theorem cn_le (f : Nat → Bool) (n : Nat) : cn f n ≤ n := by
  induction n with
  | zero => exact Nat.le_refl 0
  | succ n ih => unfold cn; split <;> omega
theorem cn_congr {f g : Nat → Bool} {n : Nat} (h : ∀ i, i < n → f i = g i) : cn f n = cn g n := by
  induction n with
  | zero => rfl
  | succ n ih => unfold cn; rw [ih (fun i hi => h i (by omega)), h n (by omega)]
theorem cn_false {f : Nat → Bool} {n : Nat} (h : ∀ i, i < n → f i = false) : cn f n = 0 := by
  induction n with
  | zero => rfl
  | succ n ih => unfold cn; rw [ih (fun i hi => h i (by omega)), h n (by omega)]; rfl
theorem cn_true {f : Nat → Bool} {n : Nat} (h : ∀ i, i < n → f i = true) : cn f n = n := by
  induction n with
  | zero => rfl
  | succ n ih => unfold cn; rw [ih (fun i hi => h i (by omega)), h n (by omega)]; rfl
theorem cn_mono {f g : Nat → Bool} {n : Nat} (h : ∀ i, i < n → f i = true → g i = true) : cn f n ≤ cn g n := by
  induction n with
  | zero => exact Nat.le_refl 0
  | succ n ih =>
    have := ih (fun i hi => h i (by omega))
    have q := h n (by omega)
    unfold cn
    cases e : f n
    · simp; omega
    · rw [q e]; simp; omega
theorem cn_or_le (f g : Nat → Bool) (n : Nat) : cn (fun i => f i || g i) n ≤ cn f n + cn g n := by
  induction n with
  | zero => exact Nat.le_refl 0
  | succ n ih =>
    unfold cn
    cases f n <;> cases g n <;> simp <;> omega
theorem cn_one (k n : Nat) : cn (fun i => decide (i = k)) n ≤ 1 := by
  have h : ∀ n, cn (fun i => decide (i = k)) n = if k < n then 1 else 0 := by
    intro n
    induction n with
    | zero => rfl
    | succ n ih =>
      unfold cn
      rw [ih]
      by_cases q : n = k
      · subst q; simp
      · by_cases q2 : k < n
        · have : k < n + 1 := by omega
          simp [q, q2, this]
        · have : ¬ k < n + 1 := by omega
          simp [q, q2, this]
  rw [h]
  split <;> omega
/-- values of N places cover at most N numbers -/
theorem pig (N : Nat) (g : Nat → Nat) (T : Nat) (h : ∀ t, t < T → ∃ i, i < N ∧ g i = t) : T ≤ N := by
  have key : ∀ N : Nat, cn (fun t => decide (∃ i, i < N ∧ g i = t)) T ≤ N := by
    intro N
    induction N with
    | zero => exact Nat.le_of_eq (cn_false (fun t _ => decide_eq_false (by intro ⟨i, hi, _⟩; omega)))
    | succ N ih =>
      have e : cn (fun t => decide (∃ i, i < N + 1 ∧ g i = t)) T ≤ cn (fun t => decide (∃ i, i < N ∧ g i = t) || decide (t = g N)) T := by
        apply cn_mono
        intro t _ ht
        obtain ⟨i, hi, q⟩ := of_decide_eq_true ht
        rcases Nat.lt_or_ge i N with h1 | h1
        · rw [decide_eq_true (show ∃ i, i < N ∧ g i = t from ⟨i, h1, q⟩)]; rfl
        · have : i = N := by omega
          subst this
          rw [decide_eq_true q.symm, Bool.or_true]
      have := cn_or_le (fun t => decide (∃ i, i < N ∧ g i = t)) (fun t => decide (t = g N)) T
      have := cn_one (g N) T
      omega
  have e := key N
  rw [cn_true (fun t ht => decide_eq_true (h t ht))] at e
  exact e
/-- downwards to a loop's head -/
theorem dn {P : Nat → Prop} (n : Nat) (hn : P n) (hs : ∀ u, u < n → P (u + 1) → P u) : ∀ u, u ≤ n → P u := by
  intro u hu
  obtain ⟨d, rfl⟩ : ∃ d, n = u + d := ⟨n - u, by omega⟩
  clear hu
  induction d generalizing u with
  | zero => exact hn
  | succ d ih =>
    refine hs u (by omega) (ih (u + 1) ?_ ?_)
    · rw [show u + 1 + d = u + (d + 1) by omega]; exact hn
    · intro v hv; exact hs v (by omega)

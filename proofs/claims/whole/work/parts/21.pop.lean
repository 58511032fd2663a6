/-! bitCount of int and long: the counting of bits -/
theorem nx_and (a b : Nat) : nI a &&& nI b = nI (a &&& b) := by
  apply Int32.toBitVec_inj.1
  show BitVec.ofNat 32 a &&& BitVec.ofNat 32 b = BitVec.ofNat 32 (a &&& b)
  apply BitVec.eq_of_getLsbD_eq
  intro i hi
  simp [hi]
theorem lx_and (a b : Nat) : lN a &&& lN b = lN (a &&& b) := by
  apply Int64.toBitVec_inj.1
  show BitVec.ofNat 64 a &&& BitVec.ofNat 64 b = BitVec.ofNat 64 (a &&& b)
  apply BitVec.eq_of_getLsbD_eq
  intro i hi
  simp [hi]
theorem lx_ushr {n k : Nat} (hn : n < 2 ^ 64) (hk : k < 64) (s : Int32) (hs : ((s.toInt64.toUInt64 &&& Int64.toUInt64 63).toBitVec % 64).toNat = k) : ((lN n).toUInt64 >>> (s.toInt64.toUInt64 &&& Int64.toUInt64 63)).toInt64 = lN (n / 2 ^ k) := by
  apply Int64.toBitVec_inj.1
  show ((lN n).toUInt64 >>> (s.toInt64.toUInt64 &&& Int64.toUInt64 63)).toBitVec = BitVec.ofNat 64 (n / 2 ^ k)
  rw [UInt64.toBitVec_shiftRight]
  show (BitVec.ofNat 64 n) >>> ((s.toInt64.toUInt64 &&& Int64.toUInt64 63).toBitVec % 64).toNat = _
  rw [hs]
  apply BitVec.eq_of_toNat_eq
  rw [BitVec.toNat_ushiftRight, BitVec.toNat_ofNat, BitVec.toNat_ofNat, Nat.mod_eq_of_lt hn, Nat.shiftRight_eq_div_pow, Nat.mod_eq_of_lt (Nat.lt_of_le_of_lt (Nat.div_le_self _ _) hn)]
theorem w_of32 (x : Int32) : ∃ n, n < 2 ^ 32 ∧ x = nI n := ⟨x.toBitVec.toNat, x.toBitVec.isLt, Int32.toBitVec_inj.mp (by show _ = BitVec.ofNat 32 _; simp)⟩
theorem w_of64 (x : Int64) : ∃ n, n < 2 ^ 64 ∧ x = lN n := ⟨x.toBitVec.toNat, x.toBitVec.isLt, Int64.toBitVec_inj.mp (by show _ = BitVec.ofNat 64 _; simp)⟩
theorem ti_nI {n : Nat} (hn : n < 2 ^ 32) (i : Nat) : ti (nI n) i = n.testBit i := by
  show (BitVec.ofNat 32 n).getLsbD i = _
  rw [BitVec.getLsbD_ofNat]
  by_cases h : i < 32
  · simp [h]
  · have : n.testBit i = false := Nat.testBit_lt_two_pow (Nat.lt_of_lt_of_le hn (Nat.pow_le_pow_right (by decide) (by omega)))
    simp [h, this]
theorem tl_lN {n : Nat} (hn : n < 2 ^ 64) (i : Nat) : tl (lN n) i = n.testBit i := by
  show (BitVec.ofNat 64 n).getLsbD i = _
  rw [BitVec.getLsbD_ofNat]
  by_cases h : i < 64
  · simp [h]
  · have : n.testBit i = false := Nat.testBit_lt_two_pow (Nat.lt_of_lt_of_le hn (Nat.pow_le_pow_right (by decide) (by omega)))
    simp [h, this]
theorem nd_split {a b c d : Nat} (hb : b < 256) (hd : d < 256) : (a * 256 + b) &&& (c * 256 + d) = (a &&& c) * 256 + (b &&& d) := by
  have hbd : b &&& d < 2 ^ 8 := Nat.and_lt_two_pow _ hd
  apply Nat.eq_of_testBit_eq
  intro i
  rw [Nat.testBit_and, show a * 256 + b = 2 ^ 8 * a + b by omega, show c * 256 + d = 2 ^ 8 * c + d by omega, show (a &&& c) * 256 + (b &&& d) = 2 ^ 8 * (a &&& c) + (b &&& d) by omega]
  rw [Nat.testBit_two_pow_mul_add a (show b < 2 ^ 8 from hb), Nat.testBit_two_pow_mul_add c (show d < 2 ^ 8 from hd), Nat.testBit_two_pow_mul_add (a &&& c) hbd]
  by_cases h : i < 8
  · simp [h, Nat.testBit_and]
  · simp [h, Nat.testBit_and]
theorem nd_low {x m k : Nat} (h : m < 2 ^ k) : x &&& m = (x % 2 ^ k) &&& m := by
  have e : (x &&& m) % 2 ^ k = x &&& m := Nat.mod_eq_of_lt (Nat.and_lt_two_pow _ h)
  rw [← e, Nat.and_mod_two_pow, Nat.mod_eq_of_lt h]
def s1 (x m : Nat) : Nat := x - ((x / 2) &&& m)
def s2 (y m : Nat) : Nat := (y &&& m) + ((y / 4) &&& m)
def s3 (y m : Nat) : Nat := (y + y / 16) &&& m
theorem s1_split (h l a : Nat) (hl : l < 256) : s1 (h * 256 + l) (a * 256 + 85) = s1 h a * 256 + s1 l 85 := by
  unfold s1
  have e : (h * 256 + l) / 2 = (h / 2) * 256 + ((h % 2) * 128 + l / 2) := by omega
  rw [e, nd_split (by omega) (by decide), nd_low (x := h % 2 * 128 + l / 2) (k := 7) (by decide), show (h % 2 * 128 + l / 2) % 2 ^ 7 = l / 2 by omega]
  have h1 : (h / 2) &&& a ≤ h / 2 := Nat.and_le_left
  have h2 : (l / 2) &&& 85 ≤ l / 2 := Nat.and_le_left
  omega
theorem s2_split (p q a : Nat) (hq : q < 256) : s2 (p * 256 + q) (a * 256 + 51) = s2 p a * 256 + s2 q 51 := by
  unfold s2
  have e : (p * 256 + q) / 4 = (p / 4) * 256 + ((p % 4) * 64 + q / 4) := by omega
  rw [e, nd_split hq (by decide), nd_split (by omega) (by decide), nd_low (x := p % 4 * 64 + q / 4) (k := 6) (by decide), show (p % 4 * 64 + q / 4) % 2 ^ 6 = q / 4 by omega]
  omega
theorem s2_small (q : Nat) : s2 q 51 ≤ 102 := by
  unfold s2
  have h1 : q &&& 51 ≤ 51 := Nat.and_le_right
  have h2 : (q / 4) &&& 51 ≤ 51 := Nat.and_le_right
  omega
theorem s2_low (y m : Nat) (hm : m % 16 ≤ 3) : s2 y m % 16 ≤ 6 := by
  unfold s2
  have h1 : (y &&& m) % 2 ^ 4 ≤ m % 2 ^ 4 := by rw [Nat.and_mod_two_pow]; exact Nat.and_le_right
  have h2 : ((y / 4) &&& m) % 2 ^ 4 ≤ m % 2 ^ 4 := by rw [Nat.and_mod_two_pow]; exact Nat.and_le_right
  omega
theorem s3_split (p q a : Nat) (hq : q ≤ 102) (hp : p % 16 ≤ 6) : s3 (p * 256 + q) (a * 256 + 15) = s3 p a * 256 + s3 q 15 := by
  unfold s3
  have e : p * 256 + q + (p * 256 + q) / 16 = (p + p / 16) * 256 + (q + q / 16 + (p % 16) * 16) := by omega
  rw [e, nd_split (by omega) (by decide), nd_low (x := q + q / 16 + p % 16 * 16) (k := 4) (by decide), nd_low (x := q + q / 16) (k := 4) (by decide), show (q + q / 16 + p % 16 * 16) % 2 ^ 4 = (q + q / 16) % 2 ^ 4 by omega]
def mA : Nat → Nat
  | 0 => 0
  | k + 1 => mA k * 256 + 85
def mB : Nat → Nat
  | 0 => 0
  | k + 1 => mB k * 256 + 51
def mC : Nat → Nat
  | 0 => 0
  | k + 1 => mC k * 256 + 15
theorem mB_low : ∀ k, mB k % 16 ≤ 3
  | 0 => by decide
  | k + 1 => by unfold mB; omega
def bs : Nat → Nat → Nat
  | 0, _ => 0
  | k + 1, n => bs k (n / 256) * 256 + cn (fun i => (n % 256).testBit i) 8
theorem byte_pop : ∀ l, l < 256 → s3 (s2 (s1 l 85) 51) 15 = cn (fun i => l.testBit i) 8 := by decide +kernel
theorem g_bs : ∀ (k n : Nat), n < 256 ^ k → s3 (s2 (s1 n (mA k)) (mB k)) (mC k) = bs k n := by
  intro k
  induction k with
  | zero =>
    intro n hn
    have : n = 0 := by simpa using hn
    subst this
    decide
  | succ k ih =>
    intro n hn
    have hd : n / 256 < 256 ^ k := by
      rw [Nat.pow_succ] at hn
      exact Nat.div_lt_of_lt_mul (by rw [Nat.mul_comm]; exact hn)
    have hl : n % 256 < 256 := Nat.mod_lt _ (by decide)
    have e : n = (n / 256) * 256 + n % 256 := by omega
    have hs1 : s1 (n % 256) 85 < 256 := by unfold s1; omega
    unfold mA mB mC bs
    rw [← ih _ hd, ← byte_pop _ hl]
    conv => lhs; rw [e]
    rw [s1_split _ _ _ hl, s2_split _ _ _ hs1, s3_split _ _ _ (s2_small _) (s2_low _ _ (mB_low k))]
theorem cn_add (f : Nat → Bool) (a b : Nat) : cn f (a + b) = cn f a + cn (fun i => f (a + i)) b := by
  induction b with
  | zero => rfl
  | succ b ih =>
    show cn f (a + b) + (if f (a + b) then 1 else 0) = cn f a + (cn (fun i => f (a + i)) b + (if f (a + b) then 1 else 0))
    rw [ih]
    omega
theorem cn_byte (n k : Nat) : cn (fun i => n.testBit i) (8 + k) = cn (fun i => (n % 256).testBit i) 8 + cn (fun i => (n / 256).testBit i) k := by
  rw [cn_add]
  congr 1
  · apply cn_congr
    intro i hi
    rw [show (256 : Nat) = 2 ^ 8 from rfl, Nat.testBit_mod_two_pow]
    simp [hi]
  · apply cn_congr
    intro i hi
    rw [show (256 : Nat) = 2 ^ 8 from rfl, ← Nat.shiftRight_eq_div_pow, Nat.testBit_shiftRight]
theorem bs4 (n : Nat) : ∃ c0 c1 c2 c3 : Nat, c0 ≤ 8 ∧ c1 ≤ 8 ∧ c2 ≤ 8 ∧ c3 ≤ 8 ∧ bs 4 n = c0 + 256 * c1 + 65536 * c2 + 16777216 * c3 ∧ cn (fun i => n.testBit i) 32 = c0 + c1 + c2 + c3 := by
  refine ⟨cn (fun i => (n % 256).testBit i) 8, cn (fun i => (n / 256 % 256).testBit i) 8, cn (fun i => (n / 256 / 256 % 256).testBit i) 8, cn (fun i => (n / 256 / 256 / 256 % 256).testBit i) 8, cn_le _ _, cn_le _ _, cn_le _ _, cn_le _ _, ?_, ?_⟩
  · simp only [bs]; omega
  · rw [show 32 = 8 + (8 + (8 + (8 + 0))) from rfl, cn_byte, cn_byte, cn_byte, cn_byte]
    show _ + (_ + (_ + (_ + 0))) = _
    omega
theorem pop32 (n : Nat) (hn : n < 2 ^ 32) : ((bs 4 n + bs 4 n / 256) + (bs 4 n + bs 4 n / 256) / 65536) &&& 63 = cn (fun i => n.testBit i) 32 := by
  obtain ⟨c0, c1, c2, c3, h0, h1, h2, h3, e, ec⟩ := bs4 n
  rw [ec, show (63 : Nat) = 2 ^ 6 - 1 from rfl, Nat.and_two_pow_sub_one_eq_mod]
  generalize bs 4 n = z at e
  have d1 : z / 256 = c1 + 256 * c2 + 65536 * c3 := by omega
  have d2 : z + z / 256 = (c0 + c1) + 256 * (c1 + c2) + 65536 * (c2 + c3) + 16777216 * c3 := by omega
  have d3 : (z + z / 256) / 65536 = (c2 + c3) + 256 * c3 := by omega
  rw [d3, d2]
  omega
theorem sp_bitCount (x : Int32) {post : Int32 → Prop} (h : post (nI (cn (fun i => ti x i) 32))) : S_J6_bitCount_0f7a4 x post := by
  intro E hE
  apply hE
  obtain ⟨n, hn, rfl⟩ := w_of32 x
  intro y1 e1 y2 e2 y3 e3 y4 e4 y5 e5
  have b1 : s1 n (mA 4) < 2 ^ 32 := by unfold s1; omega
  have q1 : y1 = nI (s1 n (mA 4)) := by
    rw [e1, pk_ushrN hn 1 1 (by decide), show (1431655765 : Int32) = nI (mA 4) from by decide +kernel, nx_and, pk_sub (Nat.le_trans Nat.and_le_left (Nat.div_le_self _ _))]
    rfl
  have b2 : s2 (s1 n (mA 4)) (mB 4) < 2 ^ 32 := by
    have h1 : s1 n (mA 4) &&& mB 4 ≤ mB 4 := Nat.and_le_right
    have h2 : (s1 n (mA 4) / 4) &&& mB 4 ≤ mB 4 := Nat.and_le_right
    have h3 : mB 4 = 858993459 := by decide +kernel
    unfold s2
    omega
  have q2 : y2 = nI (s2 (s1 n (mA 4)) (mB 4)) := by
    rw [e2, q1, pk_ushrN b1 2 2 (by decide), show (858993459 : Int32) = nI (mB 4) from by decide +kernel, nx_and, nx_and, nI_add]
    rfl
  have q3 : y3 = nI (bs 4 n) := by
    rw [← g_bs 4 n (by simpa using hn), e3, q2, pk_ushrN b2 4 4 (by decide), nI_add, show (252645135 : Int32) = nI (mC 4) from by decide +kernel, nx_and]
    rfl
  obtain ⟨c0, c1, c2, c3, h0, h1, h2, h3, e, ec⟩ := bs4 n
  have b3 : bs 4 n < 2 ^ 32 := by omega
  have q4 : y4 = nI (bs 4 n + bs 4 n / 256) := by
    rw [e4, q3, pk_ushrN b3 8 8 (by decide), nI_add]
  have b4 : bs 4 n + bs 4 n / 256 < 2 ^ 32 := by omega
  have q5 : y5 = nI ((bs 4 n + bs 4 n / 256) + (bs 4 n + bs 4 n / 256) / 65536) := by
    rw [e5, q4, pk_ushrN b4 16 16 (by decide), nI_add]
  rw [q5, show (63 : Int32) = nI 63 from rfl, nx_and, pop32 n hn]
  rw [cn_congr (fun i _ => ti_nI hn i)] at h
  exact h

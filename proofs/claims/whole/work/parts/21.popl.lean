/-! bitCount of long -/
theorem bs84 (n : Nat) : bs 8 n = bs 4 n + 4294967296 * bs 4 (n / 256 / 256 / 256 / 256) := by
  simp only [bs]
  omega
theorem cn84 (n : Nat) : cn (fun i => n.testBit i) 64 = cn (fun i => n.testBit i) 32 + cn (fun i => (n / 256 / 256 / 256 / 256).testBit i) 32 := by
  rw [show 64 = 8 + (8 + (8 + (8 + 32))) from rfl, cn_byte, cn_byte, cn_byte, cn_byte]
  rw [show cn (fun i => n.testBit i) 32 = cn (fun i => n.testBit i) (8 + (8 + (8 + (8 + 0)))) from rfl, cn_byte, cn_byte, cn_byte, cn_byte]
  have : cn (fun i => (n / 256 / 256 / 256 / 256).testBit i) 0 = 0 := rfl
  rw [this]
  omega
theorem p64a {c0 L1 H c4 H1 z : Nat} (h0 : c0 ≤ 8) (hH : H = c4 + 256 * H1) (e : z = c0 + 256 * L1 + 4294967296 * H) : z + z / 256 = (c0 + 256 * L1 + L1 + 16777216 * c4) + 4294967296 * (H + H1) := by omega
theorem p64b {a A2 B b B2 z : Nat} (ha : a < 65536) (hB : B = b + 65536 * B2) (e : z = a + 65536 * A2 + 4294967296 * B) : z + z / 65536 = (a + 65536 * A2 + A2 + 65536 * b) + 4294967296 * (B + B2) := by omega
theorem p64c {C D z : Nat} (h : C < 4294967296) (e : z = C + 4294967296 * D) : (z + z / 4294967296) % 128 = (C % 128 + D % 128) % 128 := by omega
theorem p64d {a A2 b c0 c1 c2 c3 c4 : Nat} (h0 : c0 ≤ 8) (h1 : c1 ≤ 8) (h2 : c2 ≤ 8) (h3 : c3 ≤ 8) (ea : a = (c0 + c1) + 256 * (c1 + c2)) (eA : A2 = (c2 + c3) + 256 * (c3 + c4)) : (a + 65536 * A2 + A2 + 65536 * b) % 128 = c0 + c1 + c2 + c3 := by omega
theorem p64e {B b B2 c4 c5 c6 c7 : Nat} (h4 : c4 ≤ 8) (h5 : c5 ≤ 8) (h6 : c6 ≤ 8) (h7 : c7 ≤ 8) (eB : B = b + 65536 * B2) (eb : b = (c4 + c5) + 256 * (c5 + c6)) (e2 : B2 = (c6 + c7) + 256 * c7) : (B + B2) % 128 = c4 + c5 + c6 + c7 := by omega
theorem p64f {u v : Nat} (hu : u ≤ 32) (hv : v ≤ 32) : (u + v) % 128 = u + v := by omega
theorem p64g {a b c d : Nat} (ha : a ≤ 8) (hb : b ≤ 8) (hc : c ≤ 8) (hd : d ≤ 8) : a + b + c + d ≤ 32 := by omega
theorem sp_bitCountL (x : Int64) {post : Int32 → Prop} (h : post (nI (cn (fun i => tl x i) 64))) : S_J13_bitCount_95d88 x post := by
  intro E hE
  apply hE
  obtain ⟨n, hn, rfl⟩ := w_of64 x
  intro y1 e1 y2 e2 y3 e3 y4 e4 y5 e5 y6 e6
  have b1 : s1 n (mA 8) < 2 ^ 64 := by unfold s1; omega
  have q1 : y1 = lN (s1 n (mA 8)) := by
    rw [e1, lx_ushr hn (by decide : 1 < 64) 1 (by decide), show (6148914691236517205 : Int64) = lN (mA 8) from by decide +kernel, lx_and, lN_sub (Nat.le_trans Nat.and_le_left (Nat.div_le_self _ _))]
    rfl
  have b2 : s2 (s1 n (mA 8)) (mB 8) < 2 ^ 64 := by
    have h1 : s1 n (mA 8) &&& mB 8 ≤ mB 8 := Nat.and_le_right
    have h2 : (s1 n (mA 8) / 4) &&& mB 8 ≤ mB 8 := Nat.and_le_right
    have h3 : mB 8 = 3689348814741910323 := by decide +kernel
    unfold s2
    omega
  have q2 : y2 = lN (s2 (s1 n (mA 8)) (mB 8)) := by
    rw [e2, q1, lx_ushr b1 (by decide : 2 < 64) 2 (by decide), show (3689348814741910323 : Int64) = lN (mB 8) from by decide +kernel, lx_and, lx_and, lN_add]
    rfl
  have q3 : y3 = lN (bs 8 n) := by
    rw [← g_bs 8 n (by simpa using hn), e3, q2, lx_ushr b2 (by decide : 4 < 64) 4 (by decide), lN_add, show (1085102592571150095 : Int64) = lN (mC 8) from by decide +kernel, lx_and]
    rfl
  rw [cn_congr (fun i _ => tl_lN hn i), cn84] at h
  rw [bs84] at q3
  obtain ⟨c0, c1, c2, c3, h0, h1, h2, h3, eL, cL⟩ := bs4 n
  obtain ⟨c4, c5, c6, c7, h4, h5, h6, h7, eH, cH⟩ := bs4 (n / 256 / 256 / 256 / 256)
  rw [cL, cH] at h
  generalize bs 4 (n / 256 / 256 / 256 / 256) = H at q3 eH
  generalize bs 4 n = L at q3 eL
  obtain ⟨L1, eL1⟩ : ∃ L1, L1 = c1 + 256 * c2 + 65536 * c3 := ⟨_, rfl⟩
  obtain ⟨H1, eH1⟩ : ∃ H1, H1 = c5 + 256 * c6 + 65536 * c7 := ⟨_, rfl⟩
  have eL' : L = c0 + 256 * L1 := by omega
  have eH' : H = c4 + 256 * H1 := by omega
  have bL : L < 4294967296 := by omega
  have bH : H < 4294967296 := by omega
  have bz : L + 4294967296 * H < 2 ^ 64 := by omega
  obtain ⟨a, ea⟩ : ∃ a, a = (c0 + c1) + 256 * (c1 + c2) := ⟨_, rfl⟩
  obtain ⟨A2, eA⟩ : ∃ A2, A2 = (c2 + c3) + 256 * (c3 + c4) := ⟨_, rfl⟩
  obtain ⟨b, eb⟩ : ∃ b, b = (c4 + c5) + 256 * (c5 + c6) := ⟨_, rfl⟩
  obtain ⟨B2, eB2⟩ : ∃ B2, B2 = (c6 + c7) + 256 * c7 := ⟨_, rfl⟩
  have eB : H + H1 = b + 65536 * B2 := by omega
  have f4 : (L + 4294967296 * H) + (L + 4294967296 * H) / 256 = a + 65536 * A2 + 4294967296 * (H + H1) := by
    rw [p64a (c0 := c0) (L1 := L1) (H := H) (c4 := c4) (H1 := H1) h0 eH' (by rw [eL'])]
    omega
  have ba : a < 65536 := by omega
  have bA : A2 ≤ 4112 := by omega
  have bb : b ≤ 4112 := by omega
  have bB2 : B2 ≤ 2064 := by omega
  have q4 : y4 = lN (a + 65536 * A2 + 4294967296 * (H + H1)) := by
    rw [e4, q3, lx_ushr bz (by decide : 8 < 64) 8 (by decide), lN_add]
    exact congrArg lN f4
  generalize H + H1 = B at q4 eB
  have bz4 : a + 65536 * A2 + 4294967296 * B < 2 ^ 64 := by omega
  have q5 : y5 = lN ((a + 65536 * A2 + A2 + 65536 * b) + 4294967296 * (B + B2)) := by
    rw [e5, q4, lx_ushr bz4 (by decide : 16 < 64) 16 (by decide), lN_add]
    exact congrArg lN (p64b ba eB rfl)
  have md := p64d (b := b) h0 h1 h2 h3 ea eA
  have me := p64e h4 h5 h6 h7 eB eb eB2
  generalize hC : a + 65536 * A2 + A2 + 65536 * b = C at q5 md
  have bC : C < 4294967296 := by omega
  have bD : B + B2 < 4294967296 := by omega
  generalize B + B2 = D at q5 me bD
  have bz5 : C + 4294967296 * D < 2 ^ 64 := by omega
  have q6 : y6 = lN ((C + 4294967296 * D) + (C + 4294967296 * D) / 4294967296) := by
    rw [e6, q5, lx_ushr bz5 (by decide : 32 < 64) 32 (by decide), lN_add]
  have fin : (C + 4294967296 * D + (C + 4294967296 * D) / 4294967296) &&& 127 = c0 + c1 + c2 + c3 + (c4 + c5 + c6 + c7) := by
    rw [show (127 : Nat) = 2 ^ 7 - 1 from rfl, Nat.and_two_pow_sub_one_eq_mod]
    show (C + 4294967296 * D + (C + 4294967296 * D) / 4294967296) % 128 = _
    rw [p64c bC rfl, md, me, p64f (p64g h0 h1 h2 h3) (p64g h4 h5 h6 h7)]
  rw [q6, lN_i, show (127 : Int32) = nI 127 from rfl, nx_and, fin]
  exact h

/-! Long.bitCount counts the bits -/
def mk8 (c : Nat) : Nat → Nat
  | 0 => 0
  | j + 1 => 256 * mk8 c j + c
theorem and256 (q p r c : Nat) (hr : r < 256) (hc : c < 256) : (256 * q + r) &&& (256 * p + c) = 256 * (q &&& p) + (r &&& c) := by
  have hrc : (r &&& c) < 2 ^ 8 := Nat.and_lt_two_pow r (show c < 2 ^ 8 by omega)
  apply Nat.eq_of_testBit_eq
  intro i
  rw [Nat.testBit_and, show 256 = 2 ^ 8 from rfl, Nat.testBit_two_pow_mul_add _ (show r < 2 ^ 8 by omega), Nat.testBit_two_pow_mul_add _ (show c < 2 ^ 8 by omega), Nat.testBit_two_pow_mul_add _ hrc]
  by_cases h : i < 8
  · rw [if_pos h, if_pos h, if_pos h, Nat.testBit_and]
  · rw [if_neg h, if_neg h, if_neg h, Nat.testBit_and]
def pc1 (j n : Nat) : Nat := n - ((n / 2) &&& mk8 85 j)
def pc2 (j n : Nat) : Nat := (n &&& mk8 51 j) + ((n / 4) &&& mk8 51 j)
def pc3 (j n : Nat) : Nat := (n + n / 16) &&& mk8 15 j
def pb1 (r : Nat) : Nat := r - ((r / 2) &&& 85)
def pb2 (r : Nat) : Nat := (r &&& 51) + ((r / 4) &&& 51)
def pop8 (r : Nat) : Nat := fb_ct r.testBit 8
theorem p85 : ∀ e, e < 2 → ∀ r, r < 128 → (128 * e + r) &&& 85 = r &&& 85 := by decide +kernel
theorem p51 : ∀ e, e < 4 → ∀ r, r < 64 → (64 * e + r) &&& 51 = r &&& 51 := by decide +kernel
theorem pb1_le : ∀ r, r < 256 → pb1 r < 256 := by decide +kernel
theorem pb21 : ∀ r, r < 256 → pb2 (pb1 r) ≤ 68 ∧ pb2 (pb1 r) % 16 ≤ 4 := by decide +kernel
theorem pb3 : ∀ e, e < 5 → ∀ r, r < 256 → (pb2 (pb1 r) + pb2 (pb1 r) / 16 + 16 * e) &&& 15 = pop8 r := by decide +kernel
theorem pop8_le : ∀ r, r < 256 → pop8 r ≤ 8 := by decide +kernel
theorem pc1_s (j q r : Nat) (hr : r < 256) : pc1 (j + 1) (256 * q + r) = 256 * pc1 j q + pb1 r := by
  unfold pc1 pb1
  have e : (256 * q + r) / 2 = 256 * (q / 2) + (128 * (q % 2) + r / 2) := by omega
  rw [e, show mk8 85 (j + 1) = 256 * mk8 85 j + 85 from rfl, and256 _ _ _ _ (by omega) (by omega), p85 _ (by omega) _ (by omega)]
  have h1 : (q / 2 &&& mk8 85 j) ≤ q / 2 := Nat.and_le_left
  have h2 : (r / 2 &&& 85) ≤ r / 2 := Nat.and_le_left
  omega
theorem pc2_s (j q r : Nat) (hr : r < 256) : pc2 (j + 1) (256 * q + r) = 256 * pc2 j q + pb2 r := by
  unfold pc2 pb2
  have e : (256 * q + r) / 4 = 256 * (q / 4) + (64 * (q % 4) + r / 4) := by omega
  rw [e, show mk8 51 (j + 1) = 256 * mk8 51 j + 51 from rfl, and256 _ _ _ _ (by omega) (by omega), and256 _ _ _ _ (by omega) (by omega), p51 _ (by omega) _ (by omega)]
  omega
theorem pc_s (j q r : Nat) (hr : r < 256) (hq : pc2 j (pc1 j q) % 16 ≤ 4) : pc3 (j + 1) (pc2 (j + 1) (pc1 (j + 1) (256 * q + r))) = 256 * pc3 j (pc2 j (pc1 j q)) + pop8 r := by
  rw [pc1_s j q r hr, pc2_s j _ _ (pb1_le r hr)]
  generalize pc2 j (pc1 j q) = z at hq
  have h1 := pb21 r hr
  unfold pc3
  have e : 256 * z + pb2 (pb1 r) + (256 * z + pb2 (pb1 r)) / 16 = 256 * (z + z / 16) + (pb2 (pb1 r) + pb2 (pb1 r) / 16 + 16 * (z % 16)) := by omega
  rw [e, show mk8 15 (j + 1) = 256 * mk8 15 j + 15 from rfl, and256 _ _ _ _ (by omega) (by omega), pb3 _ (by omega) _ hr]
theorem pc_4 : ∀ (j q : Nat), q < 256 ^ j → pc2 j (pc1 j q) % 16 ≤ 4 := by
  intro j q hq
  cases j with
  | zero =>
    have : q = 0 := by omega
    subst this; decide
  | succ j =>
    have e : q = 256 * (q / 256) + q % 256 := by omega
    rw [e, pc1_s j _ _ (by omega), pc2_s j _ _ (pb1_le _ (by omega))]
    have := pb21 (q % 256) (by omega)
    omega
/-- the sum of the bytes' counts, each in its byte -/
def pcs : Nat → Nat → Nat
  | 0, _ => 0
  | j + 1, n => 256 * pcs j (n / 256) + pop8 (n % 256)
theorem pc_eq : ∀ (j n : Nat), n < 256 ^ j → pc3 j (pc2 j (pc1 j n)) = pcs j n := by
  intro j
  induction j with
  | zero =>
    intro n hn
    have : n = 0 := by omega
    subst this; decide
  | succ j ih =>
    intro n hn
    have hq : n / 256 < 256 ^ j := by
      rw [Nat.pow_succ] at hn
      omega
    have e : n = 256 * (n / 256) + n % 256 := by omega
    show _ = 256 * pcs j (n / 256) + pop8 (n % 256)
    rw [← ih _ hq, ← pc_s j (n / 256) (n % 256) (by omega) (pc_4 j _ hq), ← e]
def pcd : Nat → Nat → Nat
  | 0, _ => 0
  | j + 1, n => pcd j (n / 256) + pop8 (n % 256)
theorem pcd_ct : ∀ (j n : Nat), pcd j n = fb_ct n.testBit (8 * j) := by
  intro j
  induction j with
  | zero => intro n; rfl
  | succ j ih =>
    intro n
    show pcd j (n / 256) + pop8 (n % 256) = _
    rw [ih, show 8 * (j + 1) = 8 + 8 * j by omega, fb_ct_split, Nat.add_comm]
    congr 1
    · unfold pop8
      refine fb_ct_cong (fun k hk => ?_)
      rw [show 256 = 2 ^ 8 from rfl, Nat.testBit_mod_two_pow]
      simp [hk]
    · refine fb_ct_cong (fun k hk => ?_)
      rw [show 256 = 2 ^ 8 from rfl, Nat.testBit_div_two_pow, Nat.add_comm]
theorem fold8 (p0 p1 p2 p3 p4 p5 p6 p7 : Nat) (h0 : p0 ≤ 8) (h1 : p1 ≤ 8) (h2 : p2 ≤ 8) (h3 : p3 ≤ 8) (h4 : p4 ≤ 8) (h5 : p5 ≤ 8) (h6 : p6 ≤ 8) (h7 : p7 ≤ 8) (s a b : Nat) (hs : s = 256 * (256 * (256 * (256 * (256 * (256 * (256 * (256 * 0 + p7) + p6) + p5) + p4) + p3) + p2) + p1) + p0) (ha : a = s + s / 256) (hb : b = a + a / 65536) : (b + b / 4294967296) % 128 = 0 + p7 + p6 + p5 + p4 + p3 + p2 + p1 + p0 := by
  obtain ⟨k4, e4⟩ : ∃ z, z = p4 + 256 * p5 + 65536 * p6 + 16777216 * p7 := ⟨_, rfl⟩
  obtain ⟨k2, e2⟩ : ∃ z, z = p2 + 256 * p3 + 65536 * k4 := ⟨_, rfl⟩
  have es : s = p0 + 256 * p1 + 65536 * k2 := by omega
  have e1 : s / 256 = p1 + 256 * k2 := by omega
  obtain ⟨k3, e3⟩ : ∃ z, z = p3 + 256 * k4 := ⟨_, rfl⟩
  have ek : k2 = p2 + 256 * k3 := by omega
  have ea : a = (p0 + p1) + 256 * (p1 + p2) + 65536 * (k2 + k3) := by omega
  have eq1 : a / 65536 = k2 + k3 := by omega
  obtain ⟨k5, e5⟩ : ∃ z, z = p5 + 256 * p6 + 65536 * p7 := ⟨_, rfl⟩
  obtain ⟨k6, e6⟩ : ∃ z, z = p6 + 256 * p7 := ⟨_, rfl⟩
  have f4 : k4 = p4 + 256 * k5 := by omega
  have f5 : k5 = p5 + 256 * k6 := by omega
  obtain ⟨r, er⟩ : ∃ z, z = k4 + k5 + k6 + p7 := ⟨_, rfl⟩
  have eb : b = (p0 + p1 + p2 + p3) + 256 * (p1 + p2 + p3 + p4) + 65536 * (p2 + p3 + p4 + p5) + 16777216 * (p3 + p4 + p5 + p6) + 4294967296 * r := by omega
  clear hs es e1 ea eq1 ha hb e2 e3 ek
  have eq2 : b / 4294967296 = r := by omega
  rw [eq2]
  clear eq2
  have er2 : r = (p4 + p5 + p6 + p7) + 256 * (k5 + k6 + p7) := by omega
  generalize k5 + k6 + p7 = z at er2
  clear f4 f5 e4 e5 e6 er
  omega
theorem pcs_fold (n : Nat) : ((pcs 8 n + pcs 8 n / 256 + (pcs 8 n + pcs 8 n / 256) / 65536) + (pcs 8 n + pcs 8 n / 256 + (pcs 8 n + pcs 8 n / 256) / 65536) / 4294967296) % 128 = pcd 8 n :=
  fold8 _ _ _ _ _ _ _ _ (pop8_le (n % 256) (by omega)) (pop8_le (n / 256 % 256) (by omega)) (pop8_le (n / 256 / 256 % 256) (by omega)) (pop8_le (n / 256 / 256 / 256 % 256) (by omega)) (pop8_le (n / 256 / 256 / 256 / 256 % 256) (by omega)) (pop8_le (n / 256 / 256 / 256 / 256 / 256 % 256) (by omega)) (pop8_le (n / 256 / 256 / 256 / 256 / 256 / 256 % 256) (by omega)) (pop8_le (n / 256 / 256 / 256 / 256 / 256 / 256 / 256 % 256) (by omega)) (pcs 8 n) _ _ rfl rfl rfl
theorem Bt_lN {n : Nat} (h : n < 2 ^ 64) (i : Nat) : Bt (lN n) i = n.testBit i := by
  unfold Bt
  rw [wb_tb]
  show (BitVec.ofNat 64 n).toNat.testBit i = _
  rw [BitVec.toNat_ofNat, Nat.mod_eq_of_lt h]
theorem bitCount_eq (x : Int64) : fJ13_bitCount_95d88 x = nI (fb_ct (Bt x) 64) := by
  obtain ⟨n, hn, rfl⟩ := wb_of x
  have hct : fb_ct (Bt (lN n)) 64 = pcd 8 n := by
    rw [pcd_ct]
    exact fb_ct_cong (fun k _ => Bt_lN hn k)
  rw [hct, ← pcs_fold n, ← pc_eq 8 n hn]
  unfold fJ13_bitCount_95d88
  simp only [lt]
  have lt2 : ∀ {a b : Nat}, a ≤ n → a < 2 ^ 64 := fun h => Nat.lt_of_le_of_lt h hn
  have hm1 : (6148914691236517205 : Int64) = lN (mk8 85 8) := by decide +kernel
  have hm2 : (3689348814741910323 : Int64) = lN (mk8 51 8) := by decide +kernel
  have hm4 : (1085102592571150095 : Int64) = lN (mk8 15 8) := by decide +kernel
  have hb1 : mk8 85 8 < 2 ^ 64 := by decide +kernel
  have hb2 : mk8 51 8 < 2 ^ 64 := by decide +kernel
  have hb4 : mk8 15 8 < 2 ^ 64 := by decide +kernel
  have s1 : lN n - (((lN n).toUInt64 >>> ((1 : Int32).toInt64.toUInt64 &&& Int64.toUInt64 63)).toInt64 &&& (6148914691236517205 : Int64)) = lN (pc1 8 n) := by
    rw [show (1 : Int32) = nI 1 from rfl, wb_shr hn (by decide), hm1, wb_and (by omega) hb1, lN_sub]
    · rfl
    · have : (n / 2 ^ 1 &&& mk8 85 8) ≤ n / 2 ^ 1 := Nat.and_le_left
      omega
  rw [s1]
  have hp1 : pc1 8 n < 2 ^ 64 := by unfold pc1; omega
  generalize pc1 8 n = n1 at hp1
  have s2 : (lN n1 &&& (3689348814741910323 : Int64)) + (((lN n1).toUInt64 >>> ((2 : Int32).toInt64.toUInt64 &&& Int64.toUInt64 63)).toInt64 &&& (3689348814741910323 : Int64)) = lN (pc2 8 n1) := by
    rw [show (2 : Int32) = nI 2 from rfl, wb_shr hp1 (by decide), hm2, wb_and hp1 hb2, wb_and (by omega) hb2, lN_add]
    rfl
  rw [s2]
  have hp2 : pc2 8 n1 < 2 ^ 63 := by
    unfold pc2
    have h1 : (n1 &&& mk8 51 8) ≤ mk8 51 8 := Nat.and_le_right
    have h2 : (n1 / 4 &&& mk8 51 8) ≤ mk8 51 8 := Nat.and_le_right
    have : mk8 51 8 = 3689348814741910323 := by decide +kernel
    omega
  generalize pc2 8 n1 = n2 at hp2
  have s3 : (lN n2 + ((lN n2).toUInt64 >>> ((4 : Int32).toInt64.toUInt64 &&& Int64.toUInt64 63)).toInt64) &&& (1085102592571150095 : Int64) = lN (pc3 8 n2) := by
    rw [show (4 : Int32) = nI 4 from rfl, wb_shr (by omega) (by decide), hm4, lN_add, wb_and (by omega) hb4]
    rfl
  rw [s3]
  have hp3 : pc3 8 n2 < 2 ^ 61 := by
    unfold pc3
    have h1 : ((n2 + n2 / 16) &&& mk8 15 8) ≤ mk8 15 8 := Nat.and_le_right
    have : mk8 15 8 = 1085102592571150095 := by decide +kernel
    omega
  generalize pc3 8 n2 = n3 at hp3
  have s4 : lN n3 + ((lN n3).toUInt64 >>> ((8 : Int32).toInt64.toUInt64 &&& Int64.toUInt64 63)).toInt64 = lN (n3 + n3 / 256) := by
    rw [show (8 : Int32) = nI 8 from rfl, wb_shr (by omega) (by decide), lN_add]
  rw [s4]
  have s5 : lN (n3 + n3 / 256) + ((lN (n3 + n3 / 256)).toUInt64 >>> ((16 : Int32).toInt64.toUInt64 &&& Int64.toUInt64 63)).toInt64 = lN (n3 + n3 / 256 + (n3 + n3 / 256) / 65536) := by
    rw [show (16 : Int32) = nI 16 from rfl, wb_shr (by omega) (by decide), lN_add]
  rw [s5]
  generalize hn5 : n3 + n3 / 256 + (n3 + n3 / 256) / 65536 = n5
  have s6 : lN n5 + ((lN n5).toUInt64 >>> ((32 : Int32).toInt64.toUInt64 &&& Int64.toUInt64 63)).toInt64 = lN (n5 + n5 / 4294967296) := by
    rw [show (32 : Int32) = nI 32 from rfl, wb_shr (by omega) (by decide), lN_add]
  rw [s6, lN_i]
  have hm : ∀ z : Nat, nI z &&& 127 = nI (z % 128) := by
    intro z
    rw [pk_and (nI z) 7 (by decide)]
    show nI ((BitVec.ofNat 32 z).toNat % 2 ^ 7) = _
    rw [BitVec.toNat_ofNat]
    congr 1
    omega
  rw [hm]

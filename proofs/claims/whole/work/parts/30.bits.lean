/-! bits of a long, loops that count, numbers -/
def Bt (x : Int64) (i : Nat) : Bool := x.toBitVec.getLsbD i
theorem Bt_ext {x y : Int64} (h : ∀ i, i < 64 → Bt x i = Bt y i) : x = y := Int64.toBitVec_inj.mp (BitVec.eq_of_getLsbD_eq (fun i hi => h i hi))
theorem Bt_or (x y : Int64) (i : Nat) : Bt (x ||| y) i = (Bt x i || Bt y i) := by unfold Bt; rw [Int64.toBitVec_or, BitVec.getLsbD_or]
theorem Bt_and (x y : Int64) (i : Nat) : Bt (x &&& y) i = (Bt x i && Bt y i) := by unfold Bt; rw [Int64.toBitVec_and, BitVec.getLsbD_and]
theorem Bt_xor (x y : Int64) (i : Nat) : Bt (x ^^^ y) i = (Bt x i ^^ Bt y i) := by unfold Bt; rw [Int64.toBitVec_xor, BitVec.getLsbD_xor]
theorem Bt_big {x : Int64} {i : Nat} (h : 64 ≤ i) : Bt x i = false := BitVec.getLsbD_of_ge _ _ h
theorem Bt_0 (i : Nat) : Bt 0 i = false := BitVec.getLsbD_zero
theorem Bt_m1 : ∀ i, i < 64 → Bt (-1) i = true := by decide +kernel
theorem Bt_not (x : Int64) {i : Nat} (hi : i < 64) : Bt (x ^^^ (-1)) i = !Bt x i := by rw [Bt_xor, Bt_m1 i hi]; cases Bt x i <;> rfl
theorem sl64 : ∀ n, n < 64 → (((nI n).toInt64 &&& 63).toBitVec.smod 64).toNat = n := by decide +kernel
theorem su64 : ∀ n, n < 64 → (((nI n).toInt64.toUInt64 &&& Int64.toUInt64 63).toBitVec % 64).toNat = n := by decide +kernel
theorem Bt_shl (n : Nat) (hn : n < 64) (x : Int64) {i : Nat} (hi : i < 64) : Bt (x <<< ((nI n).toInt64 &&& 63)) i = (decide (n ≤ i) && Bt x (i - n)) := by
  unfold Bt
  rw [Int64.toBitVec_shiftLeft]
  show (x.toBitVec <<< (((nI n).toInt64 &&& 63).toBitVec.smod 64).toNat).getLsbD i = _
  rw [sl64 n hn, BitVec.getLsbD_shiftLeft]
  rcases Nat.lt_or_ge i n with h | h
  · simp [h, Nat.not_le.mpr h]
  · simp [hi, h, Nat.not_lt.mpr h]
theorem Bt_ushr (n : Nat) (hn : n < 64) (x : Int64) (i : Nat) : Bt ((x.toUInt64 >>> ((nI n).toInt64.toUInt64 &&& Int64.toUInt64 63)).toInt64) i = Bt x (n + i) := by
  show (x.toUInt64 >>> ((nI n).toInt64.toUInt64 &&& Int64.toUInt64 63)).toBitVec.getLsbD i = x.toUInt64.toBitVec.getLsbD (n + i)
  rw [UInt64.toBitVec_shiftRight]
  show (x.toUInt64.toBitVec >>> (((nI n).toInt64.toUInt64 &&& Int64.toUInt64 63).toBitVec % 64).toNat).getLsbD i = _
  rw [su64 n hn, BitVec.getLsbD_ushiftRight]
theorem Bt_sshr (n : Nat) (hn : n < 64) (x : Int64) {i : Nat} (hi : i < 64) : Bt (x >>> ((nI n).toInt64 &&& 63)) i = if n + i < 64 then Bt x (n + i) else Bt x 63 := by
  unfold Bt
  rw [Int64.toBitVec_shiftRight]
  show (x.toBitVec.sshiftRight (((nI n).toInt64 &&& 63).toBitVec.smod 64).toNat).getLsbD i = _
  rw [sl64 n hn, BitVec.getLsbD_sshiftRight, BitVec.msb_eq_getLsbD_last]
  simp [hi]
theorem Bt_1 : ∀ i, i < 64 → Bt 1 i = decide (i = 0) := by decide +kernel
theorem Bt_one (n : Nat) (hn : n < 64) {i : Nat} (hi : i < 64) : Bt ((1 : Int64) <<< ((nI n).toInt64 &&& 63)) i = decide (i = n) := by
  rw [Bt_shl n hn _ hi, Bt_1 _ (by omega)]
  by_cases h : n ≤ i
  · by_cases e : i = n
    · subst e; simp
    · simp [h, e]; omega
  · simp [h]; omega
theorem Bt_eq0 {x : Int64} : x = 0 ↔ ∀ i, i < 64 → Bt x i = false := ⟨fun h i _ => by rw [h, Bt_0], fun h => Bt_ext (fun i hi => by rw [h i hi, Bt_0])⟩
theorem Bt_ne0 {x : Int64} : ¬ x = 0 ↔ ∃ i, i < 64 ∧ Bt x i = true := by
  rw [Bt_eq0]
  constructor
  · intro h
    refine Classical.byContradiction (fun q => h (fun i hi => ?_))
    cases e : Bt x i with
    | false => rfl
    | true => exact absurd ⟨i, hi, e⟩ q
  · intro ⟨i, hi, e⟩ h
    rw [h i hi] at e; cases e
theorem cmp0 {x y : Int64} : lg_cmp x y = 0 ↔ x = y := by
  unfold lg_cmp
  by_cases h : x > y
  · rw [if_pos h]
    refine ⟨fun q => absurd q (by decide), fun q => ?_⟩
    subst q
    exact absurd h (by simp [Int64.lt_irrefl])
  · rw [if_neg h]
    by_cases e : x = y
    · simp [e]
    · rw [if_neg e]; exact ⟨fun q => absurd q (by decide), fun q => absurd q e⟩
theorem cmpP (x y : Int64) : (lg_cmp x y = 0) = (x = y) := propext cmp0
-- neighbours on the board of eight by eight: cell (x, y) is x + 8 * y
def nb (i j : Nat) : Prop := (j = i + 1 ∧ i % 8 ≠ 7) ∨ (i = j + 1 ∧ j % 8 ≠ 7) ∨ j = i + 8 ∨ i = j + 8
theorem nb_sym {i j : Nat} (h : nb i j) : nb j i := by unfold nb at *; omega
theorem Bt_cR : ∀ i, i < 64 → Bt 9187201950435737471 i = decide (i % 8 ≠ 7) := by decide +kernel
theorem Bt_cL : ∀ i, i < 64 → Bt (-72340172838076674) i = decide (i % 8 ≠ 0) := by decide +kernel
theorem Bt_toRight (x : Int64) {i : Nat} (hi : i < 64) : Bt (fX3_toRight x) i = (decide (i % 8 ≠ 0) && Bt x (i - 1)) := by
  show Bt ((x &&& 9187201950435737471) <<< ((nI 1).toInt64 &&& 63)) i = _
  rw [Bt_shl 1 (by omega) _ hi, Bt_and, Bt_cR _ (by omega)]
  by_cases h : i % 8 = 0
  · by_cases h1 : 1 ≤ i
    · have : (i - 1) % 8 = 7 := by omega
      simp [h, this]
    · simp [h1, h]
  · have h1 : 1 ≤ i := by omega
    have : ¬ (i - 1) % 8 = 7 := by omega
    simp [h, h1, this]
theorem Bt_toLeft (x : Int64) {i : Nat} (hi : i < 64) : Bt (fX3_toLeft x) i = (decide (i % 8 ≠ 7) && Bt x (i + 1)) := by
  show Bt (((x &&& (-72340172838076674)).toUInt64 >>> ((nI 1).toInt64.toUInt64 &&& Int64.toUInt64 63)).toInt64) i = _
  rw [Bt_ushr 1 (by omega), Bt_and, Nat.add_comm 1 i]
  by_cases h : i = 63
  · subst h; simp [Bt_big (show 64 ≤ 63 + 1 by omega)]
  · rw [Bt_cL _ (by omega)]
    by_cases h7 : i % 8 = 7
    · have : (i + 1) % 8 = 0 := by omega
      simp [h7, this]
    · have : ¬ (i + 1) % 8 = 0 := by omega
      simp [h7, this]
theorem Bt_up (x : Int64) {i : Nat} (hi : i < 64) : Bt (x <<< ((8 : Int32).toInt64 &&& 63)) i = (decide (8 ≤ i) && Bt x (i - 8)) := Bt_shl 8 (by omega) x hi
theorem Bt_dn (x : Int64) (i : Nat) : Bt ((x.toUInt64 >>> ((8 : Int32).toInt64.toUInt64 &&& Int64.toUInt64 63)).toInt64) i = Bt x (8 + i) := Bt_ushr 8 (by omega) x i
theorem Bt_around (x : Int64) {i : Nat} (hi : i < 64) : Bt (fX3_around x) i = true ↔ ∃ j, j < 64 ∧ nb j i ∧ Bt x j = true := by
  unfold fX3_around
  rw [Bt_or, Bt_or, Bt_or, Bt_toRight _ hi, Bt_toLeft _ hi, Bt_up _ hi, Bt_dn]
  simp only [Bool.or_eq_true, Bool.and_eq_true, decide_eq_true_eq]
  constructor
  · rintro (((⟨h, b⟩ | ⟨h, b⟩) | ⟨h, b⟩) | b)
    · exact ⟨i - 1, by omega, by unfold nb; omega, b⟩
    · have h1 : i + 1 < 64 := by
        rcases Nat.lt_or_ge (i + 1) 64 with q | q
        · exact q
        · rw [Bt_big q] at b; cases b
      exact ⟨i + 1, h1, by unfold nb; omega, b⟩
    · exact ⟨i - 8, by omega, by unfold nb; omega, b⟩
    · have h1 : 8 + i < 64 := by
        rcases Nat.lt_or_ge (8 + i) 64 with q | q
        · exact q
        · rw [Bt_big q] at b; cases b
      exact ⟨8 + i, h1, by unfold nb; omega, b⟩
  · rintro ⟨j, hj, n, b⟩
    unfold nb at n
    rcases n with ⟨e, q⟩ | ⟨e, q⟩ | e | e
    · exact Or.inl (Or.inl (Or.inl ⟨by omega, by rw [show i - 1 = j by omega]; exact b⟩))
    · exact Or.inl (Or.inl (Or.inr ⟨q, by rw [← e]; exact b⟩))
    · exact Or.inl (Or.inr ⟨by omega, by rw [show i - 8 = j by omega]; exact b⟩)
    · exact Or.inr (by rw [show 8 + i = j by omega]; exact b)
theorem Bt_inside (x : Int64) {i : Nat} (hi : i < 64) : Bt (fX3_inside x) i = true ↔ Bt x i = true ∧ (i % 8 ≠ 0 ∧ Bt x (i - 1) = true) ∧ (i % 8 ≠ 7 ∧ Bt x (i + 1) = true) ∧ (8 ≤ i ∧ Bt x (i - 8) = true) ∧ Bt x (8 + i) = true := by
  unfold fX3_inside
  rw [Bt_and, Bt_and, Bt_and, Bt_and, Bt_toRight _ hi, Bt_toLeft _ hi, Bt_up _ hi, Bt_dn]
  simp only [Bool.and_eq_true, decide_eq_true_eq]
  constructor
  · rintro ⟨⟨⟨⟨a, b⟩, c⟩, d⟩, e⟩; exact ⟨a, b, c, d, e⟩
  · rintro ⟨a, b, c, d, e⟩; exact ⟨⟨⟨⟨a, b⟩, c⟩, d⟩, e⟩
theorem Bt_bit (n : Nat) (hn : n < 64) {i : Nat} (hi : i < 64) : Bt (fX3_bit (nI n)) i = decide (i = n) := Bt_one n hn hi
-- loops
theorem wh_in {S T : Type} {f : S → Option (Sum S T)} {n : Nat} {s s' : S} (h : f s = some (.inl s')) : wh f (n + 1) s = wh f n s' := by rw [wh, h]
theorem wh_out {S T : Type} {f : S → Option (Sum S T)} {n : Nat} {s : S} {t : T} (h : f s = some (.inr t)) : wh f (n + 1) s = some t := by rw [wh, h]
/-- a loop that counts: its state at each count, the count at which it ends -/
theorem wh_cnt {S T : Type} {f : S → Option (Sum S T)} (σ : Nat → S) (n N : Nat) {t : T} (hs : ∀ i, i < n → f (σ i) = some (.inl (σ (i + 1)))) (he : f (σ n) = some (.inr t)) (hN : n < N) : wh f N (σ 0) = some t := by
  have key : ∀ k i M, i + k = n → k < M → wh f M (σ i) = some t := by
    intro k
    induction k with
    | zero =>
      intro i M hi hM
      obtain ⟨M, rfl⟩ : ∃ z, M = z + 1 := ⟨M - 1, by omega⟩
      rw [show i = n by omega]
      exact wh_out he
    | succ k ih =>
      intro i M hi hM
      obtain ⟨M, rfl⟩ : ∃ z, M = z + 1 := ⟨M - 1, by omega⟩
      rw [wh_in (hs i (by omega))]
      exact ih (i + 1) M (by omega) (by omega)
  exact key n 0 N (by omega) hN
/-- a loop with an invariant and a measure that falls -/
theorem wh_inv {S T : Type} {f : S → Option (Sum S T)} (J : S → Prop) (μ : S → Nat) (Q : T → Prop) (h : ∀ s, J s → (∃ s', f s = some (.inl s') ∧ J s' ∧ μ s' < μ s) ∨ ∃ t, f s = some (.inr t) ∧ Q t) : ∀ (N : Nat) (s : S), J s → μ s < N → ∃ t, wh f N s = some t ∧ Q t := by
  intro N
  induction N with
  | zero => intro s _ h; omega
  | succ N ih =>
    intro s hs hm
    rcases h s hs with ⟨s', e, j, m⟩ | ⟨t, e, q⟩
    · obtain ⟨t, e2, q⟩ := ih s' j (by omega)
      exact ⟨t, by rw [wh_in e]; exact e2, q⟩
    · exact ⟨t, wh_out e, q⟩
-- numbers
theorem ix_nI {i n : Nat} (hi : i < 2 ^ 31) : (ix (nI i) n = true) = (i < n) := by
  have h1 : ¬ nI i < 0 := nI_pos hi
  simp only [ix, decide_eq_true_eq, nI_clamp hi, h1, false_or, Nat.not_le]
theorem leP {a b : Nat} (ha : a < 2 ^ 31) (hb : b < 2 ^ 31) : (nI a ≤ nI b) = (a ≤ b) := propext (nI_leI ha hb)
theorem ltP {a b : Nat} (ha : a < 2 ^ 31) (hb : b < 2 ^ 31) : (nI a < nI b) = (a < b) := propext (nI_ltI ha hb)
theorem eqP {a b : Nat} (ha : a < 2 ^ 31) (hb : b < 2 ^ 31) : (nI a = nI b) = (a = b) := propext (nI_eq ha hb)
theorem lt0P {a : Nat} (ha : a < 2 ^ 31) : (nI a < 0) = False := by simp [nI_pos ha]
theorem sw_nI {a : Nat} (h : a < 2 ^ 31) : ¬ nI a = -4 := fun e => by
  have h1 := congrArg Int32.toInt e
  rw [nI_toInt h] at h1
  have : (-4 : Int32).toInt = -4 := by decide
  omega

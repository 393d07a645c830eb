/-! the class's grid: sizes, who touches whom, a new board, copies -/
def cnt (cell : Nat → Int32) (l : Nat) : Nat := fb_ct (fun i => decide (cell i = nI l)) 64
theorem cnt_le (cell : Nat → Int32) (l : Nat) : cnt cell l ≤ 64 := fb_ct_le _ _
theorem sizeOf_in {cell : Nat → Int32} {gl : Nat → Int64} (hc : CR cell gl) {l : Nat} (hl : l < 6) : fX0_sizeOf (nI l) gl = some (nI (cnt cell l)) := by
  unfold fX0_sizeOf
  rw [cellsOf_in hl]
  show some (fJ13_bitCount_95d88 (gl l)) = _
  rw [bitCount_eq]
  congr 2
  exact fb_ct_cong (fun k hk => Bool.eq_iff_iff.mpr ((hc l hl k hk).trans decide_eq_true_iff.symm))
theorem gl_0 {cell : Nat → Int32} {gl : Nat → Int64} (hc : CR cell gl) {l : Nat} (hl : l < 6) : gl l = 0 ↔ cnt cell l = 0 := by
  rw [Bt_eq0]
  unfold cnt
  rw [fb_ct_zero]
  refine forall_congr' (fun i => forall_congr' (fun hi => ?_))
  have h := hc l hl i hi
  rw [← Bool.not_eq_true, ← Bool.not_eq_true, h, decide_eq_true_iff]
theorem landCells_eq {cell : Nat → Int32} {gl : Nat → Int64} (hc : CR cell gl) (hv : ∀ i, okv (cell i)) : fX0_landCells gl = some (nI (fb_ct (fun i => decide (¬ cell i = -4)) 64)) := by
  unfold fX0_landCells
  rw [peopledCells_eq]
  show some (fJ13_bitCount_95d88 _) = _
  rw [bitCount_eq]
  congr 2
  exact fb_ct_cong (fun k hk => Bool.eq_iff_iff.mpr ((orU_cell hc hk (hv k)).trans decide_eq_true_iff.symm))
def ppl (cell : Nat → Int32) (n : Nat) : Nat := fb_ct (fun l => decide (0 < cnt cell l)) n
theorem peopled_eq {cell : Nat → Int32} {gl : Nat → Int64} (hc : CR cell gl) : fX0_peopled gl = some (nI (ppl cell 6)) := by
  have e : wh (fX0_peopled_4 gl) FU (nI (ppl cell 0), nI 0) = some (nI (ppl cell 6)) := by
    refine wh_cnt (fun k => (nI (ppl cell k), nI k)) 6 FU (fun k hk => ?_) ?_ (by decide)
    · unfold fX0_peopled_4
      dsimp only
      rw [if_neg (n6 hk), if_pos (ix6 hk), nI_1, cl6 hk]
      show _ = some (Sum.inl (nI (ppl cell k + (if decide (0 < cnt cell k) then 1 else 0)), nI (k + 1)))
      by_cases q : gl k = 0
      · rw [if_pos (cmp0.mpr q), if_neg (by rw [(gl_0 hc hk).mp q]; decide), show (0 : Int32) = nI 0 from rfl, nI_add]
      · have : 0 < cnt cell k := Nat.pos_of_ne_zero (fun z => q ((gl_0 hc hk).mpr z))
        rw [if_neg (fun z => q (cmp0.mp z)), if_pos (by simpa using this), nI_1]
    · unfold fX0_peopled_4; exact if_pos g6
  show (wh (fX0_peopled_4 gl) FU (nI (ppl cell 0), nI 0)).bind _ = _
  rw [e]; rfl
/-- two lands touch -/
def TT (cell : Nat → Int32) (a b : Nat) : Prop := ∃ i j, i < 64 ∧ j < 64 ∧ nb i j ∧ cell i = nI a ∧ cell j = nI b
theorem TT_sym {cell : Nat → Int32} {a b : Nat} (h : TT cell a b) : TT cell b a := by
  obtain ⟨i, j, hi, hj, n, e1, e2⟩ := h
  exact ⟨j, i, hj, hi, nb_sym n, e2, e1⟩
theorem around_and {x y : Int64} : ¬ (fX3_around x &&& y = 0) ↔ ∃ i j, i < 64 ∧ j < 64 ∧ nb i j ∧ Bt x i = true ∧ Bt y j = true := by
  rw [Bt_ne0]
  constructor
  · rintro ⟨j, hj, b⟩
    rw [Bt_and, Bool.and_eq_true, Bt_around x hj] at b
    obtain ⟨⟨i, hi, n, bi⟩, bj⟩ := b
    exact ⟨i, j, hi, hj, n, bi, bj⟩
  · rintro ⟨i, j, hi, hj, n, bi, bj⟩
    exact ⟨j, hj, by rw [Bt_and, bj, (Bt_around x hj).mpr ⟨i, hi, n, bi⟩]; rfl⟩
theorem TT_gl {cell : Nat → Int32} {gl : Nat → Int64} (hc : CR cell gl) {a b : Nat} (ha : a < 6) (hb : b < 6) : ¬ (fX3_around (gl a) &&& gl b = 0) ↔ TT cell a b := by
  rw [around_and]
  constructor
  · rintro ⟨i, j, hi, hj, n, bi, bj⟩
    exact ⟨i, j, hi, hj, n, (hc a ha i hi).mp bi, (hc b hb j hj).mp bj⟩
  · rintro ⟨i, j, hi, hj, n, bi, bj⟩
    exact ⟨i, j, hi, hj, n, (hc a ha i hi).mpr bi, (hc b hb j hj).mpr bj⟩
theorem n8s {one k : Nat} : nI one * (8 : Int32) + nI k = nI (one * 8 + k) := by
  show nI one * nI 8 + nI k = _
  rw [pk_mul, nI_add]
theorem touch_in {cell : Nat → Int32} {gl : Nat → Int64} (hc : CR cell gl) {one : Nat} (ho : one < 6) (q p0 : Int64) : ∃ t, wh (fX0_touching_26 gl (q, nI one)) FU (p0, nI one + 1) = some t ∧ ∀ b, b < 64 → (Bt t b = true ↔ Bt p0 b = true ∨ ∃ other, one < other ∧ other < 6 ∧ b = one * 8 + other ∧ TT cell one other) := by
  refine wh_inv (fun s => ∃ k, s.2 = nI k ∧ one < k ∧ k ≤ 6 ∧ ∀ b, b < 64 → (Bt s.1 b = true ↔ Bt p0 b = true ∨ ∃ other, one < other ∧ other < k ∧ b = one * 8 + other ∧ TT cell one other)) (fun s => 6 - s.2.toNatClampNeg) _ ?_ FU _ ⟨one + 1, by rw [nI_1], by omega, by omega, fun b _ => ⟨fun h => Or.inl h, fun h => h.elim id (fun ⟨o, h1, h2, _⟩ => by omega)⟩⟩ (by show 6 - (nI one + 1).toNatClampNeg < FU; have : FU = 10000 := rfl; omega)
  rintro ⟨p, z⟩ ⟨k, hz, h1, h2, hb⟩
  dsimp only at hz hb
  subst hz
  unfold fX0_touching_26
  dsimp only
  by_cases hk : k < 6
  · rw [if_neg (n6 hk), if_pos (ix6 hk), cl6 hk, cl6 ho, nI_1, n8s]
    by_cases e : fX3_around (gl one) &&& gl k = 0
    · refine Or.inl ⟨_, by rw [if_pos (cmp0.mpr e)], ⟨k + 1, rfl, by omega, by omega, fun b hb64 => ?_⟩, by show 6 - (nI (k + 1)).toNatClampNeg < 6 - k; rw [nI_clamp (by omega)]; omega⟩
      rw [hb b hb64]
      refine or_congr_right ⟨fun ⟨o, g1, g2, g3, g4⟩ => ⟨o, g1, by omega, g3, g4⟩, fun ⟨o, g1, g2, g3, g4⟩ => ?_⟩
      by_cases ek : o = k
      · subst ek; exact absurd e ((TT_gl hc ho hk).mpr g4)
      · exact ⟨o, g1, by omega, g3, g4⟩
    · refine Or.inl ⟨(p ||| fX3_bit (nI (one * 8 + k)), nI (k + 1)), by rw [if_neg (fun w => e (cmp0.mp w))]; rfl, ⟨k + 1, rfl, by omega, by omega, fun b hb64 => ?_⟩, by show 6 - (nI (k + 1)).toNatClampNeg < 6 - k; rw [nI_clamp (by omega)]; omega⟩
      show Bt (p ||| fX3_bit (nI (one * 8 + k))) b = true ↔ _
      rw [Bt_or, Bool.or_eq_true, hb b hb64, Bt_bit _ (by omega) hb64, decide_eq_true_iff]
      constructor
      · rintro ((g | ⟨o, g1, g2, g3, g4⟩) | g)
        · exact Or.inl g
        · exact Or.inr ⟨o, g1, by omega, g3, g4⟩
        · exact Or.inr ⟨k, by omega, by omega, g, (TT_gl hc ho hk).mp e⟩
      · rintro (g | ⟨o, g1, g2, g3, g4⟩)
        · exact Or.inl (Or.inl g)
        · by_cases ek : o = k
          · subst ek; exact Or.inr g3
          · exact Or.inl (Or.inr ⟨o, g1, by omega, g3, g4⟩)
  · have : k = 6 := by omega
    subst this
    exact Or.inr ⟨p, by rw [if_pos g6], hb⟩
/-- one bit for each pair that touches -/
def TB (W H : Nat) (cell : Nat → Int32) (n b : Nat) : Prop := ∃ one, one < n ∧ ((∃ other, one < other ∧ other < 6 ∧ b = one * 8 + other ∧ TT cell one other) ∨ (b = one * 8 + 6 ∧ SeaT W H cell (fun i => cell i = nI one)))
theorem SeaT_gl {W H : Nat} {cell : Nat → Int32} {gl : Nat → Int64} (hc : CR cell gl) {l : Nat} (hl : l < 6) : SeaT W H cell (fun i => Bt (gl l) i = true) ↔ SeaT W H cell (fun i => cell i = nI l) := by
  unfold SeaT
  constructor
  · rintro ⟨i, hi, h, r⟩; exact ⟨i, hi, (hc l hl i hi).mp h, r⟩
  · rintro ⟨i, hi, h, r⟩; exact ⟨i, hi, (hc l hl i hi).mpr h, r⟩
theorem touching_eq {W H : Nat} {cell : Nat → Int32} {gl : Nat → Int64} (hc : CR cell gl) (hv : ∀ i, okv (cell i)) (hbs : BS W H cell) : ∃ t, fX0_touching gl = some t ∧ ∀ b, b < 64 → (Bt t b = true ↔ TB W H cell 6 b) := by
  have key : ∃ t, wh (fX0_touching_4 gl) FU ((0 : Int64), nI 0) = some t ∧ ∀ b, b < 64 → (Bt t b = true ↔ TB W H cell 6 b) := by
    refine wh_inv (fun s => ∃ k, s.2 = nI k ∧ k ≤ 6 ∧ ∀ b, b < 64 → (Bt s.1 b = true ↔ TB W H cell k b)) (fun s => 6 - s.2.toNatClampNeg) _ ?_ FU _ ⟨0, rfl, by omega, fun b _ => by rw [Bt_0]; exact ⟨(fun h => by cases h), (fun ⟨o, h, _⟩ => by omega)⟩⟩ (by show 6 - (nI 0).toNatClampNeg < FU; have : FU = 10000 := rfl; omega)
    rintro ⟨p, z⟩ ⟨k, hz, h2, hb⟩
    dsimp only at hz hb
    subst hz
    unfold fX0_touching_4
    dsimp only
    by_cases hk : k < 6
    · obtain ⟨t, ht, hbt⟩ := touch_in hc hk p p
      rw [if_neg (n6 hk), if_pos (ix6 hk), cl6 hk]
      have hone : (1 : Int32) = 1 := rfl
      rw [ht]
      rw [show (some t).bind (fun t26 => if ix (nI k) 6 = true then (fX0_isAtSea (gl k) gl).bind fun r74 => if r74 = 0 then some (Sum.inl (t26, nI k + 1)) else lt (t26 ||| fX3_bit (nI k * (8 : Int32) + (6 : Int32))) fun v92 => some (Sum.inl (v92, nI k + 1)) else none) = (if ix (nI k) 6 = true then (fX0_isAtSea (gl k) gl).bind fun r74 => if r74 = 0 then some (Sum.inl (t, nI k + 1)) else lt (t ||| fX3_bit (nI k * (8 : Int32) + (6 : Int32))) fun v92 => some (Sum.inl (v92, nI k + 1)) else none) from rfl]
      rw [if_pos (ix6 hk), isAtSea_eq hc hv hbs _ (fun i hi z => Classical.byContradiction (fun q => sw_nI (show k < 2 ^ 31 by omega) (((hc k hk i hi).mp z).symm.trans (hbs.2 i q))))]
      have hm : 6 - (nI (k + 1)).toNatClampNeg < 6 - k := by rw [nI_clamp (by omega)]; omega
      have hs : ∀ b, TB W H cell (k + 1) b ↔ TB W H cell k b ∨ (∃ other, k < other ∧ other < 6 ∧ b = k * 8 + other ∧ TT cell k other) ∨ (b = k * 8 + 6 ∧ SeaT W H cell (fun i => cell i = nI k)) := by
        intro b
        constructor
        · rintro ⟨o, ho, g⟩
          by_cases ek : o = k
          · subst ek; exact Or.inr g
          · exact Or.inl ⟨o, by omega, g⟩
        · rintro (⟨o, ho, g⟩ | g)
          · exact ⟨o, by omega, g⟩
          · exact ⟨k, by omega, g⟩
      rcases tf_c (SeaT W H cell (fun i => Bt (gl k) i = true)) with ⟨hS, e⟩ | ⟨hS, e⟩
      · rw [e]
        refine Or.inl ⟨(t ||| fX3_bit (nI (k * 8 + 6)), nI (k + 1)), ?_, ⟨k + 1, rfl, by omega, fun b hb64 => ?_⟩, hm⟩
        · show (if (1 : Int32) = 0 then some (Sum.inl (t, nI k + 1)) else lt (t ||| fX3_bit (nI k * (8 : Int32) + nI 6)) fun v92 => some (Sum.inl (v92, nI k + 1))) = _
          rw [if_neg (by decide), n8s, nI_1]; rfl
        · show Bt (t ||| fX3_bit (nI (k * 8 + 6))) b = true ↔ _
          rw [Bt_or, Bool.or_eq_true, hbt b hb64, Bt_bit _ (by omega) hb64, decide_eq_true_iff, hb b hb64, hs, or_assoc]
          refine or_congr_right (or_congr_right ⟨fun g => ⟨g, (SeaT_gl hc hk).mp hS⟩, fun g => g.1⟩)
      · rw [e]
        refine Or.inl ⟨(t, nI (k + 1)), ?_, ⟨k + 1, rfl, by omega, fun b hb64 => ?_⟩, hm⟩
        · show (if (0 : Int32) = 0 then some (Sum.inl (t, nI k + 1)) else lt (t ||| fX3_bit (nI k * (8 : Int32) + nI 6)) fun v92 => some (Sum.inl (v92, nI k + 1))) = _
          rw [if_pos rfl, nI_1]
        · show Bt t b = true ↔ _
          rw [hbt b hb64, hb b hb64, hs]
          refine or_congr_right ⟨fun g => Or.inl g, fun g => g.elim id (fun g => absurd ((SeaT_gl hc hk).mpr g.2) hS)⟩
    · have : k = 6 := by omega
      subst this
      exact Or.inr ⟨p, by rw [if_pos g6], hb⟩
  obtain ⟨t, ht, hb⟩ := key
  exact ⟨t, by show (wh (fX0_touching_4 gl) FU ((0 : Int64), nI 0)).bind _ = _; rw [ht]; rfl, hb⟩
/-- who touches whom is alike on two boards -/
def TS (W H : Nat) (c1 c2 : Nat → Int32) : Prop := (∀ a b, a < b → b < 6 → (TT c1 a b ↔ TT c2 a b)) ∧ ∀ a, a < 6 → (SeaT W H c1 (fun i => c1 i = nI a) ↔ SeaT W H c2 (fun i => c2 i = nI a))
theorem TB_same {W H : Nat} {c1 c2 : Nat → Int32} : (∀ b, b < 64 → (TB W H c1 6 b ↔ TB W H c2 6 b)) ↔ TS W H c1 c2 := by
  have one : ∀ (c : Nat → Int32) (a b : Nat), a < b → b < 6 → (TB W H c 6 (a * 8 + b) ↔ TT c a b) := by
    intro c a b h1 h2
    constructor
    · rintro ⟨o, ho, ⟨o2, g1, g2, g3, g4⟩ | ⟨g1, g2⟩⟩
      · have : o = a := by omega
        subst this
        have : o2 = b := by omega
        subst this
        exact g4
      · omega
    · intro h; exact ⟨a, by omega, Or.inl ⟨b, h1, h2, rfl, h⟩⟩
  have sea : ∀ (c : Nat → Int32) (a : Nat), a < 6 → (TB W H c 6 (a * 8 + 6) ↔ SeaT W H c (fun i => c i = nI a)) := by
    intro c a h1
    constructor
    · rintro ⟨o, ho, ⟨o2, g1, g2, g3, g4⟩ | ⟨g1, g2⟩⟩
      · omega
      · have : o = a := by omega
        subst this; exact g2
    · intro h; exact ⟨a, h1, Or.inr ⟨rfl, h⟩⟩
  constructor
  · intro h
    exact ⟨fun a b h1 h2 => by rw [← one c1 a b h1 h2, ← one c2 a b h1 h2]; exact h _ (by omega), fun a h1 => by rw [← sea c1 a h1, ← sea c2 a h1]; exact h _ (by omega)⟩
  · rintro ⟨h1, h2⟩ b hb
    unfold TB
    refine exists_congr (fun o => and_congr_right (fun ho => or_congr (exists_congr (fun o2 => ?_)) (and_congr_right (fun _ => h2 o ho))))
    constructor
    · rintro ⟨g1, g2, g3, g4⟩; exact ⟨g1, g2, g3, (h1 o o2 g1 g2).mp g4⟩
    · rintro ⟨g1, g2, g3, g4⟩; exact ⟨g1, g2, g3, (h1 o o2 g1 g2).mpr g4⟩

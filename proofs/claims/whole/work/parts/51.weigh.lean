/-! weights of boxes, on both sides -/
/-- the land that stands at place k -/
noncomputable def ldn (cell : Nat → Int32) (k : Nat) : Nat := @dite _ (∃ l, l < 6 ∧ 0 < cnt cell l ∧ ppl cell l = k) (Classical.propDecidable _) (fun h => Classical.choose h) (fun _ => 0)
theorem ldn_s {cell : Nat → Int32} {k : Nat} (h : ∃ l, l < 6 ∧ 0 < cnt cell l ∧ ppl cell l = k) : ldn cell k < 6 ∧ 0 < cnt cell (ldn cell k) ∧ ppl cell (ldn cell k) = k := by
  have e : ldn cell k = Classical.choose h := dif_pos h
  rw [e]
  exact Classical.choose_spec h
theorem ppl_ex {cell : Nat → Int32} {k : Nat} (h : k < ppl cell 6) : ∃ l, l < 6 ∧ 0 < cnt cell l ∧ ppl cell l = k := by
  obtain ⟨i, h1, h2, h3⟩ := fb_ct_kth (p := fun l => decide (0 < cnt cell l)) h
  exact ⟨i, h1, of_decide_eq_true h2, h3⟩
theorem ldn_l {cell : Nat → Int32} {l : Nat} (hl : l < 6) (h : 0 < cnt cell l) : ldn cell (ppl cell l) = l := by
  obtain ⟨h1, h2, h3⟩ := ldn_s (cell := cell) ⟨l, hl, h, rfl⟩
  exact fb_ct_kth_one (p := fun l => decide (0 < cnt cell l)) (decide_eq_true h2) (decide_eq_true h) h3
noncomputable def wtn (cell : Nat → Int32) (k : Nat) : Nat := cnt cell (ldn cell k)
theorem wtn_l {cell : Nat → Int32} {l : Nat} (hl : l < 6) (h : 0 < cnt cell l) : wtn cell (ppl cell l) = cnt cell l := by unfold wtn; rw [ldn_l hl h]
theorem ppl_s (cell : Nat → Int32) (l : Nat) : ppl cell (l + 1) = ppl cell l + (if 0 < cnt cell l then 1 else 0) := by
  show fb_ct _ (l + 1) = fb_ct _ l + _
  rw [fb_ct_succ]
  by_cases q : 0 < cnt cell l
  · simp [q]
  · simp [q]
theorem ppl_6 (cell : Nat → Int32) : ppl cell 6 ≤ 6 := fb_ct_le _ 6
theorem ppl_lt {cell : Nat → Int32} {l : Nat} (hl : l < 6) (h : 0 < cnt cell l) : ppl cell l < ppl cell 6 := by
  have h1 : ppl cell (l + 1) ≤ ppl cell 6 := fb_ct_mono _ (by omega)
  rw [ppl_s, if_pos h] at h1
  omega
theorem ppl_mono {cell : Nat → Int32} {a b : Nat} (h : a ≤ b) : ppl cell a ≤ ppl cell b := fb_ct_mono _ h
theorem dS_ppl {cell : Nat → Int32} : ∀ l, l ≤ 6 → dS (cnt cell) l = dS (wtn cell) (ppl cell l)
  | 0, _ => rfl
  | l + 1, h => by
    have ih := dS_ppl (cell := cell) l (by omega)
    show dS (cnt cell) l + cnt cell l = _
    rw [ih, ppl_s]
    by_cases q : 0 < cnt cell l
    · rw [if_pos q]
      show _ = dS (wtn cell) (ppl cell l) + wtn cell (ppl cell l)
      rw [wtn_l (by omega) q]
    · rw [if_neg q, Nat.add_zero]
      omega
def inU (cell : Nat → Int32) : Nat → Nat → Bool
  | 0, _ => false
  | k + 1, i => inU cell k i || decide (cell i = nI k)
theorem inU_s {cell : Nat → Int32} : ∀ {k i : Nat}, inU cell k i = true → ∃ l, l < k ∧ cell i = nI l
  | 0, _, h => by cases h
  | k + 1, i, h => by
    rcases (Bool.or_eq_true _ _).mp (show (inU cell k i || decide (cell i = nI k)) = true from h) with q | q
    · obtain ⟨l, h1, h2⟩ := inU_s q
      exact ⟨l, by omega, h2⟩
    · exact ⟨k, by omega, of_decide_eq_true q⟩
theorem dS_inU {cell : Nat → Int32} : ∀ k, k ≤ 6 → dS (cnt cell) k = fb_ct (inU cell k) 64
  | 0, _ => (fb_ct_zero.mpr (fun _ _ => rfl)).symm
  | k + 1, h => by
    have ih := dS_inU (cell := cell) k (by omega)
    show dS (cnt cell) k + cnt cell k = fb_ct (fun i => inU cell k i || decide (cell i = nI k)) 64
    rw [fb_ct_or (fun i _ ⟨h1, h2⟩ => by
      obtain ⟨l, hl, e⟩ := inU_s h1
      have e2 := of_decide_eq_true h2
      rw [e, nI_eq (by omega) (by omega)] at e2
      omega), ih]
    rfl
theorem tot_le (cell : Nat → Int32) : dS (cnt cell) 6 ≤ 64 := by rw [dS_inU 6 (by omega)]; exact fb_ct_le _ 64
theorem tot_P (cell : Nat → Int32) : dS (wtn cell) (ppl cell 6) = dS (cnt cell) 6 := (dS_ppl 6 (by omega)).symm
theorem wtn_pos {cell : Nat → Int32} {k : Nat} (h : k < ppl cell 6) : 0 < wtn cell k := (ldn_s (ppl_ex h)).2.1
theorem read_eq {cell : Nat → Int32} {gl : Nat → Int64} (hc : CR cell gl) (bx tt : Int32) (pl we : Nat → Int32) :
    ∃ pl' we', fX2_read bx tt pl we gl = some (nI (ppl cell 6), nI (dS (cnt cell) 6), pl', we') ∧ (∀ l, l < 6 → pl' l = nI (ppl cell l)) ∧ ∀ k, k < ppl cell 6 → we' k = nI (wtn cell k) := by
  have h6 := ppl_6 cell
  obtain ⟨t, et, h1, h2, h3, h4⟩ := wh_inv (f := fX2_read_12 gl) (fun s => ∃ l, l ≤ 6 ∧ s.1 = nI l ∧ s.2.1 = nI (ppl cell l) ∧ s.2.2.1 = nI (dS (cnt cell) l) ∧ (∀ j, j < l → s.2.2.2.1 j = nI (ppl cell j)) ∧ ∀ k, k < ppl cell l → s.2.2.2.2 k = nI (wtn cell k)) (fun s => 6 - s.1.toNatClampNeg) (fun t => t.1 = nI (ppl cell 6) ∧ t.2.1 = nI (dS (cnt cell) 6) ∧ (∀ l, l < 6 → t.2.2.1 l = nI (ppl cell l)) ∧ ∀ k, k < ppl cell 6 → t.2.2.2 k = nI (wtn cell k)) (by
    rintro ⟨s1, s2, s3, s4, s5⟩ ⟨l, hl, e1, e2, e3, e4, e5⟩
    dsimp only at e1 e2 e3 e4 e5
    subst e1; subst e2; subst e3
    by_cases hlt : l < 6
    · have hm : 6 - (nI (l + 1)).toNatClampNeg < 6 - (nI l).toNatClampNeg := by rw [nI_clamp (by omega), nI_clamp (by omega)]; omega
      have hc64 := cnt_le cell l
      have hpl : ppl cell l ≤ l := fb_ct_le _ l
      have hup : ∀ j, j < l + 1 → upd s4 l (nI (ppl cell l)) j = nI (ppl cell j) := by
        intro j hj
        by_cases q : j = l
        · subst q; exact pk_us
        · rw [pk_un q]; exact e4 j (by omega)
      by_cases hz : cnt cell l = 0
      · refine Or.inl ⟨(nI (l + 1), nI (ppl cell l), nI (dS (cnt cell) l), upd s4 l (nI (ppl cell l)), s5), ?_, ⟨l + 1, by omega, rfl, ?_, ?_, hup, ?_⟩, hm⟩
        · unfold fX2_read_12
          dsimp only
          rw [if_neg (n6 hlt), if_pos (ix6 hlt), sizeOf_in hc hlt]
          simp only [Option.bind_some]
          rw [if_pos (show nI (cnt cell l) ≤ 0 by rw [hz]; decide), cl6 hlt, nI_1]
        · show nI (ppl cell l) = nI (ppl cell (l + 1))
          rw [ppl_s, if_neg (by omega), Nat.add_zero]
        · show nI (dS (cnt cell) l) = nI (dS (cnt cell) l + cnt cell l)
          rw [hz, Nat.add_zero]
        · show ∀ k, k < ppl cell (l + 1) → s5 k = nI (wtn cell k)
          rw [ppl_s, if_neg (by omega), Nat.add_zero]
          exact e5
      · have hp : 0 < cnt cell l := by omega
        refine Or.inl ⟨(nI (l + 1), nI (ppl cell l + 1), nI (dS (cnt cell) l + cnt cell l), upd s4 l (nI (ppl cell l)), upd s5 (ppl cell l) (nI (cnt cell l))), ?_, ⟨l + 1, by omega, rfl, ?_, rfl, hup, ?_⟩, hm⟩
        · unfold fX2_read_12
          dsimp only
          rw [if_neg (n6 hlt), if_pos (ix6 hlt), sizeOf_in hc hlt]
          simp only [Option.bind_some]
          rw [if_neg (nI_nle hp (by omega)), if_neg (n6 (show ppl cell l < 6 by omega)), if_pos (ix6 (by omega)), if_pos (ix6 (by omega)), cl6 hlt, cl6 (show ppl cell l < 6 by omega), pk_us, nI_add, nI_1, nI_1]
        · show nI (ppl cell l + 1) = nI (ppl cell (l + 1))
          rw [ppl_s, if_pos hp]
        · show ∀ k, k < ppl cell (l + 1) → upd s5 (ppl cell l) (nI (cnt cell l)) k = nI (wtn cell k)
          rw [ppl_s, if_pos hp]
          intro k hk
          by_cases q : k = ppl cell l
          · subst q; rw [pk_us, wtn_l hlt hp]
          · rw [pk_un q]; exact e5 k (by omega)
    · have : l = 6 := by omega
      subst this
      exact Or.inr ⟨_, by unfold fX2_read_12; exact if_pos g6, rfl, rfl, e4, e5⟩) FU (nI 0, nI (ppl cell 0), nI (dS (cnt cell) 0), pl, we) ⟨0, by omega, rfl, rfl, rfl, fun j hj => by omega, fun k hk => absurd hk (Nat.not_lt_zero k)⟩ (by show 6 - (nI 0).toNatClampNeg < FU; have : FU = 10000 := rfl; omega)
  obtain ⟨t1, t2, t3, t4⟩ := t
  dsimp only at h1 h2 h3 h4
  subst h1; subst h2
  refine ⟨t3, t4, ?_, h3, h4⟩
  unfold fX2_read
  rw [show ((0 : Int32), (0 : Int32), (0 : Int32), pl, we) = (nI 0, nI (ppl cell 0), nI (dS (cnt cell) 0), pl, we) from rfl, et]
  rfl
theorem weigh_eq {W H : Nat} {cell ce : Nat → Int32} (hb : BD W H cell) (hm : MC W H cell ce) (mma mto : Int32) (mwe mla : Nat → Int32) :
    ∃ we la, fX4_weigh (nI W) (nI H) mma mto ce mwe mla = some (nI (ppl cell 6), nI (dS (cnt cell) 6), we, la) ∧ ∀ k, k < ppl cell 6 → we k = nI (wtn cell k) ∧ la k = nI (ldn cell k) := by
  have h6 := ppl_6 cell
  obtain ⟨t, et, h1, h2, h3⟩ := wh_inv (f := fX4_weigh_12 (nI W) (nI H) ce) (fun s => ∃ l, l ≤ 6 ∧ s.1 = nI l ∧ s.2.1 = nI (ppl cell l) ∧ s.2.2.1 = nI (dS (cnt cell) l) ∧ ∀ k, k < ppl cell l → s.2.2.2.1 k = nI (wtn cell k) ∧ s.2.2.2.2 k = nI (ldn cell k)) (fun s => 6 - s.1.toNatClampNeg) (fun t => t.1 = nI (ppl cell 6) ∧ t.2.1 = nI (dS (cnt cell) 6) ∧ ∀ k, k < ppl cell 6 → t.2.2.1 k = nI (wtn cell k) ∧ t.2.2.2 k = nI (ldn cell k)) (by
    rintro ⟨s1, s2, s3, s4, s5⟩ ⟨l, hl, e1, e2, e3, e5⟩
    dsimp only at e1 e2 e3 e5
    subst e1; subst e2; subst e3
    by_cases hlt : l < 6
    · have hm2 : 6 - (nI (l + 1)).toNatClampNeg < 6 - (nI l).toNatClampNeg := by rw [nI_clamp (by omega), nI_clamp (by omega)]; omega
      have hc64 := cnt_le cell l
      have hpl : ppl cell l ≤ l := fb_ct_le _ l
      by_cases hz : cnt cell l = 0
      · refine Or.inl ⟨(nI (l + 1), nI (ppl cell l), nI (dS (cnt cell) l), s4, s5), ?_, ⟨l + 1, by omega, rfl, ?_, ?_, ?_⟩, hm2⟩
        · unfold fX4_weigh_12
          dsimp only
          rw [if_neg (n6 hlt), msize_l hb hm hlt]
          simp only [Option.bind_some]
          rw [if_pos (show nI (cnt cell l) ≤ 0 by rw [hz]; decide), nI_1]
        · show nI (ppl cell l) = nI (ppl cell (l + 1))
          rw [ppl_s, if_neg (by omega), Nat.add_zero]
        · show nI (dS (cnt cell) l) = nI (dS (cnt cell) l + cnt cell l)
          rw [hz, Nat.add_zero]
        · show ∀ k, k < ppl cell (l + 1) → s4 k = nI (wtn cell k) ∧ s5 k = nI (ldn cell k)
          rw [ppl_s, if_neg (by omega), Nat.add_zero]
          exact e5
      · have hp : 0 < cnt cell l := by omega
        refine Or.inl ⟨(nI (l + 1), nI (ppl cell l + 1), nI (dS (cnt cell) l + cnt cell l), upd s4 (ppl cell l) (nI (cnt cell l)), upd s5 (ppl cell l) (nI l)), ?_, ⟨l + 1, by omega, rfl, ?_, rfl, ?_⟩, hm2⟩
        · unfold fX4_weigh_12
          dsimp only
          rw [if_neg (n6 hlt), msize_l hb hm hlt]
          simp only [Option.bind_some]
          rw [if_neg (nI_nle hp (by omega)), if_pos (ix6 (by omega)), if_pos (ix6 (by omega)), cl6 (show ppl cell l < 6 by omega), nI_add, nI_1, nI_1]
        · show nI (ppl cell l + 1) = nI (ppl cell (l + 1))
          rw [ppl_s, if_pos hp]
        · show ∀ k, k < ppl cell (l + 1) → upd s4 (ppl cell l) (nI (cnt cell l)) k = nI (wtn cell k) ∧ upd s5 (ppl cell l) (nI l) k = nI (ldn cell k)
          rw [ppl_s, if_pos hp]
          intro k hk
          by_cases q : k = ppl cell l
          · subst q; rw [pk_us, pk_us, wtn_l hlt hp, ldn_l hlt hp]; exact ⟨rfl, rfl⟩
          · rw [pk_un q, pk_un q]; exact e5 k (by omega)
    · have : l = 6 := by omega
      subst this
      exact Or.inr ⟨_, by unfold fX4_weigh_12; exact if_pos g6, rfl, rfl, e5⟩) FU (nI 0, nI (ppl cell 0), nI (dS (cnt cell) 0), mwe, mla) ⟨0, by omega, rfl, rfl, rfl, fun k hk => absurd hk (Nat.not_lt_zero k)⟩ (by show 6 - (nI 0).toNatClampNeg < FU; have : FU = 10000 := rfl; omega)
  obtain ⟨t1, t2, t3, t4⟩ := t
  dsimp only at h1 h2 h3
  subst h1; subst h2
  refine ⟨t3, t4, ?_, h3⟩
  unfold fX4_weigh
  rw [show ((0 : Int32), (0 : Int32), (0 : Int32), mwe, mla) = (nI 0, nI (ppl cell 0), nI (dS (cnt cell) 0), mwe, mla) from rfl, et]
  rfl
-- the greatest common divisor
theorem euc_3 (a b : Nat) : ∀ F x y, y < F → x < 2 ^ 31 → y < 2 ^ 31 → wh fX4_common_4 F (nI x, nI y) = some (nI (Nat.gcd y x))
  | 0, x, y, h, _, _ => by omega
  | F + 1, x, y, h, hx, hy => by
    by_cases q : y = 0
    · subst q
      rw [wh_out (t := nI x) (by unfold fX4_common_4; exact if_pos rfl), Nat.gcd_zero_left]
    · have hr : x % y < y := Nat.mod_lt _ (by omega)
      rw [wh_in (s' := (nI y, nI (x % y))) (by
        unfold fX4_common_4
        dsimp only
        rw [if_neg (nI_ne0 (by omega) hy), if_neg (nI_ne0 (by omega) hy), pk_rem hx (by omega) hy]), euc_3 a b F y (x % y) (by omega) hy (by omega), Nat.gcd_rec y x]
theorem common_eq {x y : Nat} (hx : x < 2 ^ 31) (hy : y < 5000) : fX4_common (nI x) (nI y) = some (nI (Nat.gcd y x)) := by
  unfold fX4_common
  rw [euc_3 0 0 FU x y (by unfold FU; omega) hx (by omega)]
  rfl
theorem euc_c : ∀ d k F x y, k + d = 64 → d < F → y ≤ x → x < 2 ^ 31 → x * y < 2 ^ d → wh fX3_commonDivisor_7 F (nI x, nI y, nI k) = some (nI (Nat.gcd y x)) := by
  intro d
  induction d with
  | zero =>
    intro k F x y hk hF hyx hx hm
    obtain ⟨F, rfl⟩ : ∃ z, F = z + 1 := ⟨F - 1, by omega⟩
    have y0 : y = 0 := by
      rcases Nat.eq_zero_or_pos y with z | z
      · exact z
      · have : 0 < x * y := Nat.mul_pos (by omega) z
        omega
    subst y0
    rw [wh_out (t := nI x) (by unfold fX3_commonDivisor_7; rw [if_pos (show (64 : Int32) ≤ nI k by rw [show k = 64 by omega]; exact g64)]), Nat.gcd_zero_left]
  | succ d ih =>
    intro k F x y hk hF hyx hx hm
    obtain ⟨F, rfl⟩ : ∃ z, F = z + 1 := ⟨F - 1, by omega⟩
    by_cases q : y = 0
    · subst q
      rw [wh_out (t := nI x) (by unfold fX3_commonDivisor_7; rw [if_neg (n64 (show k < 64 by omega)), if_pos (show nI 0 = 0 from rfl)]), Nat.gcd_zero_left]
    · have hr : x % y < y := Nat.mod_lt _ (by omega)
      have h2 : 2 * (x % y) ≤ x := by
        have hd := Nat.div_add_mod x y
        have h1 : 1 ≤ x / y := (Nat.le_div_iff_mul_le (by omega)).mpr (by omega)
        have : y * 1 ≤ y * (x / y) := Nat.mul_le_mul_left y h1
        omega
      have hm2 : y * (x % y) < 2 ^ d := by
        have h3 : y * (2 * (x % y)) ≤ y * x := Nat.mul_le_mul_left y h2
        rw [Nat.mul_comm y x, Nat.mul_left_comm] at h3
        rw [Nat.pow_succ] at hm
        omega
      rw [wh_in (s' := (nI y, nI (x % y), nI (k + 1))) (by
        unfold fX3_commonDivisor_7
        dsimp only
        rw [if_neg (n64 (show k < 64 by omega)), if_neg (nI_ne0 (by omega) (by omega)), if_neg (nI_ne0 (by omega) (by omega)), pk_rem hx (by omega) (by omega), nI_1]), ih (k + 1) F y (x % y) (by omega) (by omega) (by omega) (by omega) hm2, Nat.gcd_rec y x]
theorem divisor_eq {x y : Nat} (h : y ≤ x) (hx : x < 5000) : fX3_commonDivisor (nI x) (nI y) = some (nI (Nat.gcd y x)) := by
  unfold fX3_commonDivisor
  have : x * y ≤ 5000 * 5000 := Nat.mul_le_mul (by omega) (by omega)
  rw [show ((nI x, nI y, (0 : Int32)) : Int32 × Int32 × Int32) = (nI x, nI y, nI 0) from rfl, euc_c 64 0 FU x y (by omega) (by unfold FU; omega) h (by omega) (by omega)]
  rfl

/-! longer and box, on both sides -/
section BOXES
variable {B : Nat} {ask mtr : Int64} {gw gh top kep don mw mh mke mnx mdo : Int32} {gl : Nat → Int64} {vc vf ki ow wa ce mk mo mwa mmc mmf : Nat → Int32}
theorem sm32 : ∀ m, m < 32 → ((nI m &&& 31).toBitVec.smod 32).toNat = m := by decide +kernel
theorem shr_m {a m : Nat} (ha : a < 2 ^ 31) (hm : m < 32) : nI a >>> (nI m &&& 31) = nI (a / 2 ^ m) := pk_shrN ha _ m (sm32 m hm)
theorem shl_m {m : Nat} (hm : m < 31) : (1 : Int32) <<< (nI m &&& 31) = nI (2 ^ m) := by
  have h := pk_shlN (n := 1) (nI m &&& 31) m (sm32 m (by omega)) (by rw [Nat.one_mul]; exact Nat.pow_lt_pow_right (by decide) (by omega))
  rw [Nat.one_mul] at h
  exact h
theorem shr_0 {a m : Nat} (ha : a < 2 ^ 31) (hm : m < 32) : nI a >>> (nI m &&& 31) = 0 ↔ a < 2 ^ m := by
  rw [shr_m ha hm]
  have hp : 0 < 2 ^ m := Nat.two_pow_pos m
  have hd : a / 2 ^ m < 2 ^ 31 := Nat.lt_of_le_of_lt (Nat.div_le_self _ _) ha
  constructor
  · intro h
    have := (nI_eq (b := 0) hd (by decide)).mp h
    rcases Nat.div_eq_zero_iff.mp this with z | z
    · omega
    · exact z
  · intro h
    rw [Nat.div_eq_of_lt h]; rfl
noncomputable def lft (cell : Nat → Int32) (x : Int32) (p : Nat) : Nat := dS (wtn cell) p - dS (wtn cell) (rst x p)
noncomputable def abv (cell : Nat → Int32) (x : Int32) (p : Nat) : Nat := dS (wtn cell) (rst x p)
noncomputable def rww (cell : Nat → Int32) (x : Int32) (p e : Nat) : Nat := dS (wtn cell) (e + 1) - dS (wtn cell) (rst x p)
theorem rww_b {cell : Nat → Int32} {x : Int32} {p e : Nat} (h : RE (ppl cell 6) x p e) : 1 ≤ wtn cell p ∧ wtn cell p ≤ rww cell x p e ∧ rww cell x p e ≤ dS (cnt cell) 6 ∧ abv cell x p ≤ 64 ∧ lft cell x p ≤ 64 := by
  obtain ⟨h1, h2, -, -⟩ := h
  have a1 := wtn_pos (cell := cell) (k := p) (by omega)
  have a2 := rst_le x p
  have a3 := dS_mono (g := wtn cell) a2
  have a4 := dS_mono (g := wtn cell) (a := p + 1) (b := e + 1) (by omega)
  have a5 := dS_mono (g := wtn cell) (a := e + 1) (b := ppl cell 6) (by omega)
  have a6 := tot_P cell
  have a7 := tot_le cell
  have a8 : dS (wtn cell) (p + 1) = dS (wtn cell) p + wtn cell p := rfl
  unfold rww abv lft
  omega
/-- has a land a box, and which -/
theorem boxOf_both {W H : Nat} {cell : Nat → Int32} (hR : RB W H cell gl ce) (x1 x2 mma mto mah mrs mab : Int32) (mwe mla : Nat → Int32) :
    (fX3_hasBox x1 x2 gl = some 0 ∧ ∃ a b c d e f g, fX4_boxOf x1 x2 (nI W) (nI H) mma mto mah mrs mab ce mwe mla = some (-1, a, b, c, d, e, f, g)) ∨
    ∃ l e we la, l < 6 ∧ x2 = nI l ∧ 0 < cnt cell l ∧ fX3_hasBox x1 x2 gl = some 1 ∧ RE (ppl cell 6) x1 (ppl cell l) e ∧ fX4_boxOf x1 x2 (nI W) (nI H) mma mto mah mrs mab ce mwe mla = some (nI (ppl cell l), nI (ppl cell 6), nI (dS (cnt cell) 6), nI (lft cell x1 (ppl cell l)), nI (rww cell x1 (ppl cell l) e), nI (abv cell x1 (ppl cell l)), we, la) ∧ we (ppl cell l) = nI (wtn cell (ppl cell l)) := by
  have h6 := ppl_6 cell
  rcases land_c x2 with ⟨l, hl, rfl, h1, h2⟩ | ⟨h0, h1, h2⟩
  · have hc64 := cnt_le cell l
    by_cases hz : cnt cell l = 0
    · refine Or.inl ⟨?_, ?_⟩
      · unfold fX3_hasBox
        rw [h1, if_neg (by decide), sizeOf_in hR.2.1 hl, hz]
        rfl
      · unfold fX4_boxOf
        rw [h2, if_neg (by decide), msize_l hR.1 hR.2.2 hl, hz]
        exact ⟨_, _, _, _, _, _, _, rfl⟩
    · have hp : 0 < cnt cell l := by omega
      have hpl := ppl_lt hl hp
      by_cases n0 : x1 < 0
      · refine Or.inl ⟨?_, ?_⟩
        · unfold fX3_hasBox
          rw [h1, if_neg (by decide), sizeOf_in hR.2.1 hl]
          simp only [Option.bind_some]
          rw [if_neg (nI_nle hp (by omega)), if_pos n0]
        · unfold fX4_boxOf
          rw [h2, if_neg (by decide), msize_l hR.1 hR.2.2 hl]
          simp only [Option.bind_some]
          rw [if_neg (nI_ne0 hp (by omega)), if_neg (Int32.not_le.mpr n0)]
          exact ⟨_, _, _, _, _, _, _, rfl⟩
      · obtain ⟨a, ha, rfl⟩ := nI_of n0
        obtain ⟨we, la, ew, hw⟩ := weigh_eq hR.1 hR.2.2 mma mto mwe mla
        have en : nI (ppl cell 6) - (1 : Int32) = nI (ppl cell 6 - 1) := pk_sub (b := 1) (by omega)
        have hcmp : ((1 : Int32) <<< (nI (ppl cell 6 - 1) &&& 31) ≤ nI a) ↔ 2 ^ (ppl cell 6 - 1) ≤ a := by
          have hp5 : 2 ^ (ppl cell 6 - 1) ≤ 2 ^ 5 := Nat.pow_le_pow_right (by decide) (by omega)
          rw [shl_m (by omega), nI_leI (by omega) ha]
        have hsh := shr_0 (a := a) (m := ppl cell 6 - 1) ha (by omega)
        by_cases q : a < 2 ^ (ppl cell 6 - 1)
        · obtain ⟨e, he, el⟩ := mlay_eq (n := ppl cell 6) (x := nI a) (wt := wtn cell) (we := we) h6 (fun k hk => (hw k hk).1) hpl mah mrs mab
          refine Or.inr ⟨l, e, we, la, hl, rfl, hp, ?_, he, ?_, (hw _ hpl).1⟩
          · unfold fX3_hasBox
            rw [h1, if_neg (by decide), sizeOf_in hR.2.1 hl]
            simp only [Option.bind_some]
            rw [if_neg (nI_nle hp (by omega)), if_neg n0, peopled_eq hR.2.1]
            simp only [Option.bind_some]
            rw [en, if_neg (fun z => by have := hcmp.mp z; omega)]
          · have e40 : wh (fX4_boxOf_40 (nI l) (nI (ppl cell 6), nI (dS (cnt cell) 6), we, la)) FU (nI 0) = some (nI (ppl cell l)) := by
              refine wh_cnt (fun k => nI k) (ppl cell l) FU (fun k hk => ?_) ?_ (by unfold FU; omega)
              · unfold fX4_boxOf_40
                dsimp only
                have hk6 := ldn_s (ppl_ex (cell := cell) (k := k) (by omega))
                rw [if_pos (ix6 (by omega)), cl6 (show k < 6 by omega), if_neg, nI_1]
                rw [(hw k (by omega)).2, nI_eq (by omega) (by omega)]
                intro z
                have := hk6.2.2
                rw [z] at this
                omega
              · unfold fX4_boxOf_40
                dsimp only
                rw [if_pos (ix6 (by omega)), cl6 (show ppl cell l < 6 by omega), if_pos]
                rw [(hw _ hpl).2, ldn_l hl hp]
            unfold fX4_boxOf
            rw [h2, if_neg (by decide), msize_l hR.1 hR.2.2 hl]
            simp only [Option.bind_some]
            rw [if_neg (nI_ne0 hp (by omega)), if_pos (nI_pos' ha), ew]
            simp only [Option.bind_some]
            rw [en, if_pos (hsh.mpr q), show (0 : Int32) = nI 0 from rfl, e40]
            simp only [Option.bind_some]
            rw [el]
            rfl
        · refine Or.inl ⟨?_, ?_⟩
          · unfold fX3_hasBox
            rw [h1, if_neg (by decide), sizeOf_in hR.2.1 hl]
            simp only [Option.bind_some]
            rw [if_neg (nI_nle hp (by omega)), if_neg n0, peopled_eq hR.2.1]
            simp only [Option.bind_some]
            rw [en, if_pos (hcmp.mpr (by omega))]
          · unfold fX4_boxOf
            rw [h2, if_neg (by decide), msize_l hR.1 hR.2.2 hl]
            simp only [Option.bind_some]
            rw [if_neg (nI_ne0 hp (by omega)), if_pos (nI_pos' ha), ew]
            simp only [Option.bind_some]
            rw [en, if_neg (fun z => q (hsh.mp z))]
            exact ⟨_, _, _, _, _, _, _, rfl⟩
  · refine Or.inl ⟨by unfold fX3_hasBox; rw [h1, if_pos rfl], ?_⟩
    unfold fX4_boxOf
    rw [h2, if_pos rfl]
    exact ⟨_, _, _, _, _, _, _, rfl⟩
-- the longer side, reduced
theorem sq_le {a b : Nat} (ha : a ≤ 64) (hb : b ≤ 64) : a * b ≤ 4096 := Nat.mul_le_mul ha hb
theorem upper_eq {p w r tot : Nat} {we rw : Nat → Int32} (hp : p < 6) (hw : we p = nI w) (hr : rw p = nI r) (h1 : r * r < 5000) (h2 : w * tot < 5000) : fX2_longUpper (nI p) (nI tot) we rw = some (nI (max (r * r) (w * tot))) := by
  unfold fX2_longUpper fX2_scaledHeight fX2_scaledWidth
  rw [if_neg (nI_pos (show p < 2 ^ 31 by omega)), if_neg (n6 hp), if_pos (ix6 hp), if_pos (ix6 hp), if_neg (nI_pos (show p < 2 ^ 31 by omega)), if_neg (n6 hp), if_pos (ix6 hp), cl6 hp, hw, hr, pk_mul, pk_mul]
  simp only [Option.bind_some]
  by_cases q : r * r < w * tot
  · rw [if_pos (nI_lt q (by omega)), Nat.max_eq_right (by omega)]
  · rw [if_neg (nI_nlt (by omega) (by omega)), Nat.max_eq_left (by omega)]
theorem lower_eq {p w r tot : Nat} {we rw : Nat → Int32} (hp : p < 6) (hw : we p = nI w) (hr : rw p = nI r) (h1 : r * r < 5000) (h2 : w * tot < 5000) : fX2_longLower (nI p) (nI tot) we rw = some (nI (min (r * r) (w * tot))) := by
  unfold fX2_longLower fX2_scaledHeight fX2_scaledWidth
  rw [if_neg (nI_pos (show p < 2 ^ 31 by omega)), if_neg (n6 hp), if_pos (ix6 hp), if_pos (ix6 hp), if_neg (nI_pos (show p < 2 ^ 31 by omega)), if_neg (n6 hp), if_pos (ix6 hp), cl6 hp, hw, hr, pk_mul, pk_mul]
  simp only [Option.bind_some]
  by_cases q : w * tot < r * r
  · rw [if_pos (nI_lt q (by omega)), Nat.min_eq_right (by omega)]
  · rw [if_neg (nI_nlt (by omega) (by omega)), Nat.min_eq_left (by omega)]
theorem gcd_mm (a b : Nat) : Nat.gcd (min b a) (max b a) = Nat.gcd b a := by
  rcases Nat.le_total a b with q | q
  · rw [Nat.min_eq_right q, Nat.max_eq_left q, Nat.gcd_comm]
  · rw [Nat.min_eq_left q, Nat.max_eq_right q]
theorem mup_eq {p w r tot : Nat} {we : Nat → Int32} (hp : p < 6) (hw : we p = nI w) (h1 : r * r < 5000) (h2 : w * tot < 5000) (h3 : 0 < w * tot) : fX4_longUp (nI p) (nI tot) (nI r) we = some (nI (max (r * r) (w * tot) / Nat.gcd (r * r) (w * tot))) := by
  have hg : 0 < Nat.gcd (r * r) (w * tot) := Nat.gcd_pos_of_pos_right _ h3
  have hg2 : Nat.gcd (r * r) (w * tot) ≤ w * tot := Nat.gcd_le_right _ h3
  unfold fX4_longUp
  rw [if_pos (ix6 hp), cl6 hp, hw, pk_mul, pk_mul, common_eq (by omega) h1]
  simp only [Option.bind_some]
  rw [if_neg (nI_ne0 hg (by omega))]
  by_cases q : w * tot ≤ r * r
  · rw [if_pos (nI_le q (by omega)), pk_div (by omega) hg (by omega), Nat.max_eq_left q]
  · rw [if_neg (nI_ge (by omega) (by omega)), if_neg (nI_ne0 hg (by omega)), pk_div (by omega) hg (by omega), Nat.max_eq_right (by omega)]
theorem mdn_eq {p w r tot : Nat} {we : Nat → Int32} (hp : p < 6) (hw : we p = nI w) (h1 : r * r < 5000) (h2 : w * tot < 5000) (h3 : 0 < w * tot) : fX4_longDown (nI p) (nI tot) (nI r) we = some (nI (min (r * r) (w * tot) / Nat.gcd (r * r) (w * tot))) := by
  have hg : 0 < Nat.gcd (r * r) (w * tot) := Nat.gcd_pos_of_pos_right _ h3
  have hg2 : Nat.gcd (r * r) (w * tot) ≤ w * tot := Nat.gcd_le_right _ h3
  unfold fX4_longDown
  rw [if_pos (ix6 hp), cl6 hp, hw, pk_mul, pk_mul, common_eq (by omega) h1]
  simp only [Option.bind_some]
  rw [if_neg (nI_ne0 hg (by omega))]
  by_cases q : w * tot ≤ r * r
  · rw [if_pos (nI_le q (by omega)), pk_div (by omega) hg (by omega), Nat.min_eq_right q]
  · rw [if_neg (nI_ge (by omega) (by omega)), if_neg (nI_ne0 hg (by omega)), pk_div (by omega) hg (by omega), Nat.min_eq_left (by omega)]
theorem placeOf_in {l : Nat} {pl : Nat → Int32} (hl : l < 6) : fX2_placeOf (nI l) pl = some (pl l) := by
  unfold fX2_placeOf
  rw [isLand_in hl, if_neg (by decide), if_pos (ix6 hl), cl6 hl]
theorem b_longer (h : BoR B ask gw gh gl top kep don vc vf ki ow wa mw mh mke mnx mdo mtr ce mk mo mwa mmc mmf) (x1 x2 x3 bx tt mma mto mah mrs mab : Int32) (pl we le ab rw mwe mla : Nat → Int32) :
    ∃ r c1 c2 c3 c4 c5 c6 c7 m1 m2 m3 m4 m5 m6 m7, fX3_longer x1 x2 x3 gl bx tt pl we le ab rw = some (r, c1, c2, c3, c4, c5, c6, c7) ∧ fX4_longer x1 x2 x3 mw mh mma mto mah mrs mab ce mwe mla = some (r, m1, m2, m3, m4, m5, m6, m7) := by
  obtain ⟨W, H, cell, kk, ws, rfl, rfl, rfl, rfl, rfl, hR, hk1, hk2, hw1, hw2, ho, hM⟩ := h
  by_cases n0 : x3 < 0
  · exact ⟨_, _, _, _, _, _, _, _, _, _, _, _, _, _, _, by unfold fX3_longer; rw [if_pos n0], by unfold fX4_longer; rw [in_no (Or.inl n0), if_pos rfl]⟩
  · by_cases n2 : (1 : Int32) < x3
    · exact ⟨_, _, _, _, _, _, _, _, _, _, _, _, _, _, _, by unfold fX3_longer; rw [if_neg n0, if_pos n2], by unfold fX4_longer; rw [in_no (Or.inr n2), if_pos rfl]⟩
    · have hin : fX4_in x3 0 1 = 1 := in_yes n0 n2
      rcases boxOf_both hR x1 x2 mma mto mah mrs mab mwe mla with ⟨e3, m1, m2, m3, m4, m5, m6, m7, e4⟩ | ⟨l, e, wm, la, hl, rfl, hp, e3, hRE, e4, hwm⟩
      · refine ⟨-1, bx, tt, pl, we, le, ab, rw, m1, m2, m3, m4, m5, m6, m7, ?_, ?_⟩
        · unfold fX3_longer
          rw [if_neg n0, if_neg n2, e3]
          rfl
        · unfold fX4_longer
          rw [hin, if_neg (by decide), e4]
          rfl
      · have h6 := ppl_6 cell
        have hpl := ppl_lt hl hp
        have ht := tot_le cell
        obtain ⟨b1, b2, b3, b4, b5⟩ := rww_b hRE
        obtain ⟨pl', we', er, hpl', hwe'⟩ := read_eq hR.2.1 bx tt pl we
        obtain ⟨le', ab', rw', el, hLD⟩ := lay_eq (n := ppl cell 6) (x := x1) (wt := wtn cell) h6 hwe' le ab rw
        obtain ⟨e', hRE', l1, l2, l3⟩ := hLD _ hpl
        have := RE_one hRE hRE'
        subst this
        have w1 : wtn cell (ppl cell l) * dS (cnt cell) 6 ≤ 4096 := sq_le (by omega) ht
        have w2 : rww cell x1 (ppl cell l) e * rww cell x1 (ppl cell l) e ≤ 4096 := sq_le (by omega) (by omega)
        have w3 : 0 < wtn cell (ppl cell l) * dS (cnt cell) 6 := Nat.mul_pos (by omega) (by omega)
        have u1 := upper_eq (tot := dS (cnt cell) 6) (show ppl cell l < 6 by omega) (hwe' _ hpl) (show rw' (ppl cell l) = nI (rww cell x1 (ppl cell l) e) from l3) (by omega) (by omega)
        have u2 := lower_eq (tot := dS (cnt cell) 6) (show ppl cell l < 6 by omega) (hwe' _ hpl) (show rw' (ppl cell l) = nI (rww cell x1 (ppl cell l) e) from l3) (by omega) (by omega)
        have v1 := mup_eq (r := rww cell x1 (ppl cell l) e) (tot := dS (cnt cell) 6) (show ppl cell l < 6 by omega) hwm (by omega) (by omega) w3
        have v2 := mdn_eq (r := rww cell x1 (ppl cell l) e) (tot := dS (cnt cell) 6) (show ppl cell l < 6 by omega) hwm (by omega) (by omega) w3
        generalize rww cell x1 (ppl cell l) e = r at *
        generalize wtn cell (ppl cell l) = w at *
        generalize dS (cnt cell) 6 = tot at *
        have hg : 0 < Nat.gcd (r * r) (w * tot) := Nat.gcd_pos_of_pos_right _ w3
        have hg2 : Nat.gcd (r * r) (w * tot) ≤ w * tot := Nat.gcd_le_right _ w3
        have hmx : max (r * r) (w * tot) < 5000 := Nat.max_lt.mpr ⟨by omega, by omega⟩
        have hmn : min (r * r) (w * tot) ≤ max (r * r) (w * tot) := by omega
        have dv := divisor_eq hmn hmx
        rw [gcd_mm] at dv
        have g0 : ¬ nI (Nat.gcd (r * r) (w * tot)) = 0 := nI_ne0 hg (by omega)
        have hL : fX3_longer x1 (nI l) x3 gl bx tt pl we le ab rw = (if x3 = 0 then some (nI (max (r * r) (w * tot) / Nat.gcd (r * r) (w * tot)), nI (ppl cell 6), nI tot, pl', we', le', ab', rw') else some (nI (min (r * r) (w * tot) / Nat.gcd (r * r) (w * tot)), nI (ppl cell 6), nI tot, pl', we', le', ab', rw')) := by
          unfold fX3_longer
          rw [if_neg n0, if_neg n2, e3]
          simp only [Option.bind_some]
          rw [if_neg (by decide), er]
          simp only [Option.bind_some]
          rw [el]
          simp only [Option.bind_some, placeOf_in hl, hpl' l hl]
          rw [u1, u2]
          simp only [Option.bind_some]
          rw [dv]
          simp only [Option.bind_some]
          rw [if_pos (show (1 : Int32) ≤ nI (Nat.gcd (r * r) (w * tot)) from nI_le (a := 1) hg (by omega)), if_neg g0, if_neg g0, pk_div (by omega) hg (by omega), pk_div (by omega) hg (by omega)]
        by_cases z : x3 = 0
        · refine ⟨_, _, _, _, _, _, _, _, nI (ppl cell 6), nI tot, nI (lft cell x1 (ppl cell l)), nI r, nI (abv cell x1 (ppl cell l)), wm, la, hL.trans (if_pos z), ?_⟩
          unfold fX4_longer
          rw [hin, if_neg (by decide), e4]
          simp only [Option.bind_some]
          rw [if_pos (nI_pos' (by omega)), if_pos z, v1]
          rfl
        · refine ⟨_, _, _, _, _, _, _, _, nI (ppl cell 6), nI tot, nI (lft cell x1 (ppl cell l)), nI r, nI (abv cell x1 (ppl cell l)), wm, la, hL.trans (if_neg z), ?_⟩
          unfold fX4_longer
          rw [hin, if_neg (by decide), e4]
          simp only [Option.bind_some]
          rw [if_pos (nI_pos' (by omega)), if_neg z, v2]
          rfl
theorem thou_eq {a b : Nat} (ha : a ≤ 64) (hb : 1 ≤ b) (hb2 : b ≤ 64) : fX3_thousandths (nI a) (nI b) = some (nI (a * 1000 / b)) := by
  unfold fX3_thousandths
  rw [if_neg (nI_nle (by omega) (by omega)), if_neg (nI_ne0 (by omega) (by omega)), show (1000 : Int32) = nI 1000 from rfl, pk_mul, pk_div (by omega) (by omega) (by omega)]
theorem mthou {a b : Nat} (ha : a ≤ 64) (hb : 1 ≤ b) (hb2 : b ≤ 64) : ((1000 : Int32) * nI a) / nI b = nI (a * 1000 / b) := by
  rw [show (1000 : Int32) = nI 1000 from rfl, pk_mul, pk_div (by omega) (by omega) (by omega), Nat.mul_comm]
theorem b_box (h : BoR B ask gw gh gl top kep don vc vf ki ow wa mw mh mke mnx mdo mtr ce mk mo mwa mmc mmf) (x1 x2 x3 bx tt mma mto mah mrs mab : Int32) (pl we le ab rw mwe mla : Nat → Int32) :
    ∃ r c1 c2 c3 c4 c5 c6 c7 m1 m2 m3 m4 m5 m6 m7, fX3_box x1 x2 x3 gl bx tt pl we le ab rw = some (r, c1, c2, c3, c4, c5, c6, c7) ∧ fX4_box x1 x2 x3 mw mh mma mto mah mrs mab ce mwe mla = some (r, m1, m2, m3, m4, m5, m6, m7) := by
  obtain ⟨W, H, cell, kk, ws, rfl, rfl, rfl, rfl, rfl, hR, hk1, hk2, hw1, hw2, ho, hM⟩ := h
  by_cases n0 : x3 < 0
  · exact ⟨_, _, _, _, _, _, _, _, _, _, _, _, _, _, _, by unfold fX3_box; rw [if_pos n0], by unfold fX4_box; rw [in_no (Or.inl n0), if_pos rfl]⟩
  · by_cases n2 : (3 : Int32) < x3
    · exact ⟨_, _, _, _, _, _, _, _, _, _, _, _, _, _, _, by unfold fX3_box; rw [if_neg n0, if_pos n2], by unfold fX4_box; rw [in_no (Or.inr n2), if_pos rfl]⟩
    · have hin : fX4_in x3 0 3 = 1 := in_yes n0 n2
      rcases boxOf_both hR x1 x2 mma mto mah mrs mab mwe mla with ⟨e3, m1, m2, m3, m4, m5, m6, m7, e4⟩ | ⟨l, e, wm, la, hl, rfl, hp, e3, hRE, e4, hwm⟩
      · refine ⟨-1, bx, tt, pl, we, le, ab, rw, m1, m2, m3, m4, m5, m6, m7, ?_, ?_⟩
        · unfold fX3_box
          rw [if_neg n0, if_neg n2, e3]
          rfl
        · unfold fX4_box
          rw [hin, if_neg (by decide), e4]
          rfl
      · have h6 := ppl_6 cell
        have hpl := ppl_lt hl hp
        have ht := tot_le cell
        obtain ⟨b1, b2, b3, b4, b5⟩ := rww_b hRE
        obtain ⟨pl', we', er, hpl', hwe'⟩ := read_eq hR.2.1 bx tt pl we
        obtain ⟨le', ab', rw', el, hLD⟩ := lay_eq (n := ppl cell 6) (x := x1) (wt := wtn cell) h6 hwe' le ab rw
        obtain ⟨e', hRE', l1, l2, l3⟩ := hLD _ hpl
        have := RE_one hRE hRE'
        subst this
        have l1 : le' (ppl cell l) = nI (lft cell x1 (ppl cell l)) := l1
        have l2 : ab' (ppl cell l) = nI (abv cell x1 (ppl cell l)) := l2
        have l3 : rw' (ppl cell l) = nI (rww cell x1 (ppl cell l) e) := l3
        have hw0 := hwe' _ hpl
        have p6 : ppl cell l < 6 := by omega
        generalize rww cell x1 (ppl cell l) e = r at *
        generalize abv cell x1 (ppl cell l) = ab0 at *
        generalize lft cell x1 (ppl cell l) = le0 at *
        generalize wtn cell (ppl cell l) = w at *
        generalize dS (cnt cell) 6 = tot at *
        have hr0 : ¬ nI r = 0 := nI_ne0 (by omega) (by omega)
        have ht0 : ¬ nI tot = 0 := nI_ne0 (by omega) (by omega)
        have hC : ∀ v, fX2_side (nI (ppl cell l)) x3 (nI tot) we' le' ab' rw' = some v → fX3_box x1 (nI l) x3 gl bx tt pl we le ab rw = some (v, nI (ppl cell 6), nI tot, pl', we', le', ab', rw') := by
          intro v hv
          unfold fX3_box
          rw [if_neg n0, if_neg n2, e3]
          simp only [Option.bind_some]
          rw [if_neg (by decide), er]
          simp only [Option.bind_some]
          rw [el]
          simp only [Option.bind_some, placeOf_in hl, hpl' l hl]
          rw [hv]
          rfl
        have hS : ∀ v, (if x3 = (0 : Int32) then some (nI (le0 * 1000 / r)) else if x3 = (1 : Int32) then some (nI (ab0 * 1000 / tot)) else if x3 = (2 : Int32) then some (nI (w * 1000 / r)) else some (nI (r * 1000 / tot))) = some v → fX2_side (nI (ppl cell l)) x3 (nI tot) we' le' ab' rw' = some v := by
          intro v hv
          rw [← hv]
          unfold fX2_side
          rw [if_neg (nI_pos (by omega)), if_pos (show nI (ppl cell l) < 6 from nI_lt (b := 6) p6 (by decide))]
          simp only [if_pos (ix6 p6), cl6 p6, l1, l2, l3, hw0]
          rw [thou_eq b5 (by omega) (by omega), thou_eq b4 (by omega) ht, thou_eq (show w ≤ 64 by omega) (by omega) (by omega), thou_eq (show r ≤ 64 by omega) (by omega) ht]
          rfl
        have hM4 : fX4_box x1 (nI l) x3 (nI W) (nI H) mma mto mah mrs mab ce mwe mla = (if x3 = (0 : Int32) then some (nI (le0 * 1000 / r), nI (ppl cell 6), nI tot, nI le0, nI r, nI ab0, wm, la) else if x3 = (1 : Int32) then some (nI (ab0 * 1000 / tot), nI (ppl cell 6), nI tot, nI le0, nI r, nI ab0, wm, la) else if x3 = (2 : Int32) then some (nI (w * 1000 / r), nI (ppl cell 6), nI tot, nI le0, nI r, nI ab0, wm, la) else some (nI (r * 1000 / tot), nI (ppl cell 6), nI tot, nI le0, nI r, nI ab0, wm, la)) := by
          unfold fX4_box
          rw [hin, if_neg (by decide), e4]
          simp only [Option.bind_some]
          rw [if_pos (nI_pos' (by omega)), if_neg hr0, if_neg ht0, if_pos (ix6 p6), if_neg hr0, if_neg ht0, cl6 p6, hwm, mthou b5 (by omega) (by omega), mthou b4 (by omega) ht, mthou (show w ≤ 64 by omega) (by omega) (by omega), mthou (show r ≤ 64 by omega) (by omega) ht]
        by_cases z0 : x3 = 0
        · exact ⟨_, _, _, _, _, _, _, _, _, _, _, _, _, _, _, hC _ (hS _ (if_pos z0)), by rw [hM4, if_pos z0]⟩
        · by_cases z1 : x3 = 1
          · exact ⟨_, _, _, _, _, _, _, _, _, _, _, _, _, _, _, hC _ (hS _ (by rw [if_neg z0, if_pos z1])), by rw [hM4, if_neg z0, if_pos z1]⟩
          · by_cases z2 : x3 = 2
            · exact ⟨_, _, _, _, _, _, _, _, _, _, _, _, _, _, _, hC _ (hS _ (by rw [if_neg z0, if_neg z1, if_pos z2])), by rw [hM4, if_neg z0, if_neg z1, if_pos z2]⟩
            · exact ⟨_, _, _, _, _, _, _, _, _, _, _, _, _, _, _, hC _ (hS _ (by rw [if_neg z0, if_neg z1, if_neg z2])), by rw [hM4, if_neg z0, if_neg z1, if_neg z2]⟩
end BOXES

/-! best, on both sides -/
theorem cross2 {u L U d mu bl bu md : Nat} (hd : 0 < d) (hL : 0 < L) (hbl : 0 < bl) (hmd : 0 < md) (h1 : mu * bl = bu * md) (h2 : u * L = U * d) : bu * L ≤ U * bl ↔ mu * d ≤ u * md := by
  have e1 : (bu * L) * (md * d) = (mu * d) * (bl * L) := by
    calc (bu * L) * (md * d) = (bu * md) * (L * d) := by rw [Nat.mul_mul_mul_comm]
      _ = (mu * bl) * (L * d) := by rw [h1]
      _ = (mu * bl) * (d * L) := by rw [Nat.mul_comm L d]
      _ = (mu * d) * (bl * L) := by rw [Nat.mul_mul_mul_comm]
  have e2 : (U * bl) * (md * d) = (u * md) * (bl * L) := by
    calc (U * bl) * (md * d) = (U * bl) * (d * md) := by rw [Nat.mul_comm md d]
      _ = (U * d) * (bl * md) := by rw [Nat.mul_mul_mul_comm]
      _ = (u * L) * (bl * md) := by rw [h2]
      _ = (u * L) * (md * bl) := by rw [Nat.mul_comm bl md]
      _ = (u * md) * (L * bl) := by rw [Nat.mul_mul_mul_comm]
      _ = (u * md) * (bl * L) := by rw [Nat.mul_comm L bl]
  have p1 : 0 < md * d := Nat.mul_pos hmd hd
  have p2 : 0 < bl * L := Nat.mul_pos hbl hL
  constructor
  · intro h
    have h3 := Nat.mul_le_mul_right (md * d) h
    rw [e1, e2] at h3
    exact Nat.le_of_mul_le_mul_right h3 p2
  · intro h
    have h3 := Nat.mul_le_mul_right (bl * L) h
    rw [← e1, ← e2] at h3
    exact Nat.le_of_mul_le_mul_right h3 p1
theorem lcl {a b c d : Nat} (ha : a < 5000) (hb : b < 5000) (hc : c < 5000) (hd : d < 5000) : lg_cmp ((nI a).toInt64 * (nI b).toInt64) ((nI c).toInt64 * (nI d).toInt64) ≤ 0 ↔ a * b ≤ c * d := by
  have h1 : a * b ≤ 5000 * 5000 := Nat.mul_le_mul (by omega) (by omega)
  have h2 : c * d ≤ 5000 * 5000 := Nat.mul_le_mul (by omega) (by omega)
  rw [lg_cmp_le, nI_l (by omega), nI_l (by omega), nI_l (by omega), nI_l (by omega), lN_mul, lN_mul, pk_lLE (by omega) (by omega)]
theorem lcg {a b c d : Nat} (ha : a < 5000) (hb : b < 5000) (hc : c < 5000) (hd : d < 5000) : 0 ≤ lg_cmp ((nI a).toInt64 * (nI b).toInt64) ((nI c).toInt64 * (nI d).toInt64) ↔ c * d ≤ a * b := by
  have h1 : a * b ≤ 5000 * 5000 := Nat.mul_le_mul (by omega) (by omega)
  have h2 : c * d ≤ 5000 * 5000 := Nat.mul_le_mul (by omega) (by omega)
  rw [lg_cmp_ge, nI_l (by omega), nI_l (by omega), nI_l (by omega), nI_l (by omega), lN_mul, lN_mul, pk_lLE (by omega) (by omega)]
theorem icl {a b c d : Nat} (ha : a < 5000) (hb : b < 5000) (hc : c < 5000) (hd : d < 5000) : nI a * nI b ≤ nI c * nI d ↔ a * b ≤ c * d := by
  have h1 : a * b ≤ 5000 * 5000 := Nat.mul_le_mul (by omega) (by omega)
  have h2 : c * d ≤ 5000 * 5000 := Nat.mul_le_mul (by omega) (by omega)
  rw [pk_mul, pk_mul, nI_leI (by omega) (by omega)]
/-- what both sides hold of the places of one way to cut -/
def PL (n tot : Nat) (x : Int32) (we rw wm : Nat → Int32) (up lo uq dq : Nat → Nat) : Prop := ∀ p, p < n → fX2_longUpper (nI p) (nI tot) we rw = some (nI (up p)) ∧ fX2_longLower (nI p) (nI tot) we rw = some (nI (lo p)) ∧ (∀ mah mrs mab, ∃ m1 m2 m3, fX4_lay x (nI p) (nI n) mah mrs mab wm = some (m1, m2, m3) ∧ fX4_longUp (nI p) (nI tot) m2 wm = some (nI (uq p)) ∧ fX4_longDown (nI p) (nI tot) m2 wm = some (nI (dq p))) ∧ up p < 5000 ∧ lo p < 5000 ∧ uq p < 5000 ∧ dq p < 5000 ∧ 0 < up p ∧ 0 < lo p ∧ 0 < uq p ∧ 0 < dq p ∧ uq p * lo p = up p * dq p
theorem inner_loops {n tot : Nat} {x : Int32} {we rw wm la : Nat → Int32} {up lo uq dq : Nat → Nat} (hn : n ≤ 6) (hP : PL n tot x we rw wm up lo uq dq) (q1 q2 q3 q5 q6 q7 : Int32) : ∀ (d0 k F F' j u d : Nat) (mah mrs mab : Int32), k + d0 = n → d0 < F → d0 < F' → j < n → u * lo j = up j * d → 0 < d → u < 5000 → d < 5000 →
    ∃ j' u' d' m1 m2 m3, wh (fX2_longestPlace_4 (nI n) (nI tot) we rw) F (nI j, nI k) = some (nI j') ∧ wh (fX4_best_45 (nI n, nI tot, wm, la) (q1, q2, q3, x, q5, q6, q7)) F' (nI u, nI d, nI k, mah, mrs, mab) = some (nI u', nI d', m1, m2, m3) ∧ j' < n ∧ u' * lo j' = up j' * d' ∧ 0 < d' ∧ u' < 5000 ∧ d' < 5000 := by
  intro d0
  induction d0 with
  | zero =>
    intro k F F' j u d mah mrs mab hk hF hF' hj hr hd hu5 hd5
    obtain ⟨F, rfl⟩ : ∃ z, F = z + 1 := ⟨F - 1, by omega⟩
    obtain ⟨F', rfl⟩ : ∃ z, F' = z + 1 := ⟨F' - 1, by omega⟩
    have : k = n := by omega
    subst this
    exact ⟨j, u, d, mah, mrs, mab, wh_out (by unfold fX2_longestPlace_4; exact if_pos (Int32.le_refl _)), wh_out (by unfold fX4_best_45; exact if_pos (Int32.le_refl _)), hj, hr, hd, hu5, hd5⟩
  | succ d0 ih =>
    intro k F F' j u d mah mrs mab hk hF hF' hj hr hd hu5 hd5
    obtain ⟨F, rfl⟩ : ∃ z, F = z + 1 := ⟨F - 1, by omega⟩
    obtain ⟨F', rfl⟩ : ∃ z, F' = z + 1 := ⟨F' - 1, by omega⟩
    have hkn : k < n := by omega
    obtain ⟨a1, a2, a3, a4, a5, a6, a7, a8, a9, a10, a11, a12⟩ := hP k hkn
    obtain ⟨b1, b2, -, b4, b5, b6, b7, b8, b9, b10, b11, b12⟩ := hP j hj
    obtain ⟨m1, m2, m3, c1, c2, c3⟩ := a3 mah mrs mab
    have key : up k * lo j ≤ up j * lo k ↔ uq k * d ≤ u * dq k := cross2 (u := u) (L := lo j) (U := up j) (d := d) (mu := uq k) (bl := lo k) (bu := up k) (md := dq k) hd b9 a9 a11 a12 hr
    by_cases q : up k * lo j ≤ up j * lo k
    · obtain ⟨j', u', d', n1, n2, n3, r1, r2, r3⟩ := ih (k + 1) F F' j u d m1 m2 m3 (by omega) (by omega) (by omega) hj hr hd hu5 hd5
      refine ⟨j', u', d', n1, n2, n3, ?_, ?_, r3⟩
      · rw [wh_in (s' := (nI j, nI (k + 1))) (by
          unfold fX2_longestPlace_4
          dsimp only
          rw [if_neg (nI_ge hkn (by omega)), a1, a2, b1, b2]
          simp only [Option.bind_some]
          rw [if_pos ((icl a4 b5 b4 a5).mpr q), nI_1])]
        exact r1
      · rw [wh_in (s' := (nI u, nI d, nI (k + 1), m1, m2, m3)) (by
          unfold fX4_best_45
          dsimp only
          rw [if_neg (nI_ge hkn (by omega)), c1]
          simp only [Option.bind_some]
          rw [c2, c3]
          simp only [Option.bind_some]
          rw [if_pos ((lcl a6 hd5 hu5 a7).mpr (key.mp q)), nI_1])]
        exact r2
    · obtain ⟨j', u', d', n1, n2, n3, r1, r2, r3⟩ := ih (k + 1) F F' k (uq k) (dq k) m1 m2 m3 (by omega) (by omega) (by omega) hkn a12 a11 a6 a7
      refine ⟨j', u', d', n1, n2, n3, ?_, ?_, r3⟩
      · rw [wh_in (s' := (nI k, nI (k + 1))) (by
          unfold fX2_longestPlace_4
          dsimp only
          rw [if_neg (nI_ge hkn (by omega)), a1, a2, b1, b2]
          simp only [Option.bind_some]
          rw [if_neg (fun z => q ((icl a4 b5 b4 a5).mp z)), nI_1])]
        exact r1
      · rw [wh_in (s' := (nI (uq k), nI (dq k), nI (k + 1), m1, m2, m3)) (by
          unfold fX4_best_45
          dsimp only
          rw [if_neg (nI_ge hkn (by omega)), c1]
          simp only [Option.bind_some]
          rw [c2, c3]
          simp only [Option.bind_some]
          rw [if_neg (fun z => q (key.mpr ((lcl a6 hd5 hu5 a7).mp z))), nI_1])]
        exact r2
/-- one way to cut: both sides find the longest box, their sides are alike -/
theorem cut_both {cell : Nat → Int32} {x : Int32} {we wm la : Nat → Int32} (hn : 0 < ppl cell 6) (hw : ∀ k, k < ppl cell 6 → we k = nI (wtn cell k)) (hwm : ∀ k, k < ppl cell 6 → wm k = nI (wtn cell k)) (le ab rw : Nat → Int32) (q1 q2 q3 q5 q6 q7 mah mrs mab : Int32) :
    ∃ le' ab' rw' j U L u d m1 m2 m3, fX2_lay x (nI (ppl cell 6)) we le ab rw = some (le', ab', rw') ∧ fX2_longestPlace (nI (ppl cell 6)) (nI (dS (cnt cell) 6)) we rw' = some (nI j) ∧ fX2_longUpper (nI j) (nI (dS (cnt cell) 6)) we rw' = some (nI U) ∧ fX2_longLower (nI j) (nI (dS (cnt cell) 6)) we rw' = some (nI L) ∧ wh (fX4_best_45 (nI (ppl cell 6), nI (dS (cnt cell) 6), wm, la) (q1, q2, q3, x, q5, q6, q7)) FU ((0 : Int32), (1 : Int32), (0 : Int32), mah, mrs, mab) = some (nI u, nI d, m1, m2, m3) ∧ u * L = U * d ∧ 0 < d ∧ 0 < L ∧ u < 5000 ∧ d < 5000 ∧ U < 5000 ∧ L < 5000 := by
  have h6 := ppl_6 cell
  have ht := tot_le cell
  obtain ⟨le', ab', rw', el, hLD⟩ := lay_eq (n := ppl cell 6) (x := x) (wt := wtn cell) h6 hw le ab rw
  have hex : ∀ p, ∃ r, p < ppl cell 6 → rw' p = nI r ∧ 1 ≤ r ∧ r ≤ 64 ∧ ∀ mah mrs mab, ∃ m1 m3, fX4_lay x (nI p) (nI (ppl cell 6)) mah mrs mab wm = some (m1, nI r, m3) := by
    intro p
    by_cases hp : p < ppl cell 6
    · obtain ⟨e, hRE, l1, l2, l3⟩ := hLD p hp
      obtain ⟨b1, b2, b3, b4, b5⟩ := rww_b hRE
      refine ⟨rww cell x p e, fun _ => ⟨l3, by omega, by omega, fun mah mrs mab => ?_⟩⟩
      obtain ⟨e', hRE', el'⟩ := mlay_eq (n := ppl cell 6) (x := x) (wt := wtn cell) (we := wm) h6 hwm hp mah mrs mab
      have := RE_one hRE hRE'
      subst this
      exact ⟨_, _, el'⟩
    · exact ⟨0, fun z => absurd z hp⟩
  obtain ⟨r, hr⟩ : ∃ r : Nat → Nat, ∀ p, p < ppl cell 6 → rw' p = nI (r p) ∧ 1 ≤ r p ∧ r p ≤ 64 ∧ ∀ mah mrs mab, ∃ m1 m3, fX4_lay x (nI p) (nI (ppl cell 6)) mah mrs mab wm = some (m1, nI (r p), m3) := ⟨fun p => Classical.choose (hex p), fun p hp => Classical.choose_spec (hex p) hp⟩
  have hPL : PL (ppl cell 6) (dS (cnt cell) 6) x we rw' wm (fun p => max (r p * r p) (wtn cell p * dS (cnt cell) 6)) (fun p => min (r p * r p) (wtn cell p * dS (cnt cell) 6)) (fun p => max (r p * r p) (wtn cell p * dS (cnt cell) 6) / Nat.gcd (r p * r p) (wtn cell p * dS (cnt cell) 6)) (fun p => min (r p * r p) (wtn cell p * dS (cnt cell) 6) / Nat.gcd (r p * r p) (wtn cell p * dS (cnt cell) 6)) := by
    intro p hp
    obtain ⟨z1, z2, z3, z4⟩ := hr p hp
    obtain ⟨e, hRE, -⟩ := hLD p hp
    obtain ⟨b1, b2, b3, b4, b5⟩ := rww_b hRE
    have w1 : wtn cell p * dS (cnt cell) 6 ≤ 4096 := sq_le (by omega) ht
    have w2 : r p * r p ≤ 4096 := sq_le z3 z3
    have w3 : 0 < wtn cell p * dS (cnt cell) 6 := Nat.mul_pos (by omega) (by omega)
    have w4 : 0 < r p * r p := Nat.mul_pos (by omega) (by omega)
    have u1 := upper_eq (tot := dS (cnt cell) 6) (show p < 6 by omega) (hw p hp) z1 (by omega) (by omega)
    have u2 := lower_eq (tot := dS (cnt cell) 6) (show p < 6 by omega) (hw p hp) z1 (by omega) (by omega)
    have v1 := mup_eq (r := r p) (tot := dS (cnt cell) 6) (show p < 6 by omega) (hwm p hp) (by omega) (by omega) w3
    have v2 := mdn_eq (r := r p) (tot := dS (cnt cell) 6) (show p < 6 by omega) (hwm p hp) (by omega) (by omega) w3
    dsimp only
    generalize wtn cell p * dS (cnt cell) 6 = b at *
    generalize r p * r p = a at *
    have hg : 0 < Nat.gcd a b := Nat.gcd_pos_of_pos_right _ w3
    have d1 : Nat.gcd a b ∣ max a b := by
      rcases Nat.le_total a b with q | q
      · rw [Nat.max_eq_right q]; exact Nat.gcd_dvd_right a b
      · rw [Nat.max_eq_left q]; exact Nat.gcd_dvd_left a b
    have d2 : Nat.gcd a b ∣ min a b := by
      rcases Nat.le_total a b with q | q
      · rw [Nat.min_eq_left q]; exact Nat.gcd_dvd_left a b
      · rw [Nat.min_eq_right q]; exact Nat.gcd_dvd_right a b
    have mx : max a b < 5000 := Nat.max_lt.mpr ⟨by omega, by omega⟩
    have mn : min a b < 5000 := by omega
    have px : 0 < max a b := by omega
    have pn : 0 < min a b := by omega
    refine ⟨u1, u2, fun mah mrs mab => ?_, mx, mn, Nat.lt_of_le_of_lt (Nat.div_le_self _ _) mx, Nat.lt_of_le_of_lt (Nat.div_le_self _ _) mn, px, pn, Nat.div_pos (Nat.le_of_dvd px d1) hg, Nat.div_pos (Nat.le_of_dvd pn d2) hg, ?_⟩
    · obtain ⟨m1, m3, em⟩ := z4 mah mrs mab
      exact ⟨m1, _, m3, em, v1, v2⟩
    · obtain ⟨c1, e1⟩ := d1
      obtain ⟨c2, e2⟩ := d2
      rw [e1, e2, Nat.mul_div_cancel_left _ hg, Nat.mul_div_cancel_left _ hg, Nat.mul_left_comm, Nat.mul_assoc]
  generalize (fun p => max (r p * r p) (wtn cell p * dS (cnt cell) 6)) = up at hPL
  generalize (fun p => min (r p * r p) (wtn cell p * dS (cnt cell) 6)) = lo at hPL
  generalize (fun p => max (r p * r p) (wtn cell p * dS (cnt cell) 6) / Nat.gcd (r p * r p) (wtn cell p * dS (cnt cell) 6)) = uq at hPL
  generalize (fun p => min (r p * r p) (wtn cell p * dS (cnt cell) 6) / Nat.gcd (r p * r p) (wtn cell p * dS (cnt cell) 6)) = dq at hPL
  obtain ⟨a1, a2, a3, a4, a5, a6, a7, a8, a9, a10, a11, a12⟩ := hPL 0 hn
  obtain ⟨m1, m2, m3, c1, c2, c3⟩ := a3 mah mrs mab
  obtain ⟨j, u, d, n1, n2, n3, r1, r2, r3, r4, r5, r6, r7⟩ := inner_loops (la := la) h6 hPL q1 q2 q3 q5 q6 q7 (ppl cell 6 - 1) 1 FU 9999 0 (uq 0) (dq 0) m1 m2 m3 (by omega) (by unfold FU; omega) (by omega) hn a12 a11 a6 a7
  obtain ⟨b1, b2, -, b4, b5, b6, b7, b8, b9, b10, b11, b12⟩ := hPL j r3
  refine ⟨le', ab', rw', j, up j, lo j, u, d, n1, n2, n3, el, ?_, b1, b2, ?_, r4, r5, b9, r6, r7, b4, b5⟩
  · unfold fX2_longestPlace
    rw [show ((0 : Int32), (1 : Int32)) = (nI 0, nI 1) from rfl, r1]
    rfl
  · show wh _ (9999 + 1) _ = _
    rw [wh_in (s' := (nI (uq 0), nI (dq 0), nI 1, m1, m2, m3)) (by
      unfold fX4_best_45
      dsimp only
      rw [show (0 : Int32) = nI 0 from rfl, show (1 : Int32) = nI 1 from rfl, if_neg (nI_ge hn (by omega)), c1]
      simp only [Option.bind_some]
      rw [c2, c3]
      simp only [Option.bind_some]
      rw [if_neg (fun z => by
        have := (lcl a6 (by omega) (by omega) a7).mp z
        omega), nI_add])]
    exact r2
/-- all ways to cut -/
theorem cuts_loops {cell : Nat → Int32} {we wm la : Nat → Int32} (hn : 0 < ppl cell 6) (hw : ∀ k, k < ppl cell 6 → we k = nI (wtn cell k)) (hwm : ∀ k, k < ppl cell 6 → wm k = nI (wtn cell k)) : ∀ (d0 c F F' b bu bl mu md : Nat) (le ab rw : Nat → Int32) (mah mrs mab : Int32), c + d0 = 2 ^ (ppl cell 6 - 1) → d0 < F → d0 < F' → 0 < c → b < 100 → mu * bl = bu * md → 0 < md → 0 < bl → mu < 5000 → md < 5000 → bu < 5000 → bl < 5000 →
    ∃ r c1 c2 c3 m1 m2 m3, wh (fX2_bestCuts_9 (nI (ppl cell 6)) (nI (dS (cnt cell) 6)) we) F (nI b, nI bu, nI bl, nI c, le, ab, rw) = some (r, c1, c2, c3) ∧ wh (fX4_best_23 (nI (ppl cell 6), nI (dS (cnt cell) 6), wm, la)) F' (nI b, nI mu, nI md, nI c, mah, mrs, mab) = some (r, m1, m2, m3) := by
  have h6 := ppl_6 cell
  have hp5 : 2 ^ (ppl cell 6 - 1) ≤ 2 ^ 5 := Nat.pow_le_pow_right (by decide) (by omega)
  have en : nI (ppl cell 6) - (1 : Int32) = nI (ppl cell 6 - 1) := pk_sub (b := 1) (by omega)
  have n0 : ¬ nI (ppl cell 6 - 1) < 0 := nI_pos (by omega)
  intro d0
  induction d0 with
  | zero =>
    intro c F F' b bu bl mu md le ab rw mah mrs mab hc hF hF' c0 hb hr h1 h2 h3 h4 h5 h7
    obtain ⟨F, rfl⟩ : ∃ z, F = z + 1 := ⟨F - 1, by omega⟩
    obtain ⟨F', rfl⟩ : ∃ z, F' = z + 1 := ⟨F' - 1, by omega⟩
    refine ⟨nI b, le, ab, rw, mah, mrs, mab, wh_out ?_, wh_out ?_⟩
    · unfold fX2_bestCuts_9
      dsimp only
      rw [en, if_neg n0, shl_m (by omega), if_pos (nI_le (by omega) (by omega))]
    · unfold fX4_best_23
      dsimp only
      rw [en, shl_m (by omega), if_pos (nI_le (by omega) (by omega))]
  | succ d0 ih =>
    intro c F F' b bu bl mu md le ab rw mah mrs mab hc hF hF' c0 hb hr h1 h2 h3 h4 h5 h7
    obtain ⟨F, rfl⟩ : ∃ z, F = z + 1 := ⟨F - 1, by omega⟩
    obtain ⟨F', rfl⟩ : ∃ z, F' = z + 1 := ⟨F' - 1, by omega⟩
    obtain ⟨le', ab', rw', j, U, L, u, d, m1, m2, m3, e1, e2, e3, e4, e5, g1, g2, g3, g4, g5, g6, g7⟩ := cut_both (x := nI c) (la := la) hn hw hwm le ab rw (nI b) (nI mu) (nI md) mah mrs mab mah mrs mab
    have key : bu * L ≤ U * bl ↔ mu * d ≤ u * md := cross2 g2 g3 h2 h1 hr g1
    by_cases q : bu * L ≤ U * bl
    · obtain ⟨r, c1, c2, c3, n1, n2, n3, r1, r2⟩ := ih (c + 1) F F' b bu bl mu md le' ab' rw' m1 m2 m3 (by omega) (by omega) (by omega) (by omega) hb hr h1 h2 h3 h4 h5 h7
      refine ⟨r, c1, c2, c3, n1, n2, n3, ?_, ?_⟩
      · rw [wh_in (s' := (nI b, nI bu, nI bl, nI (c + 1), le', ab', rw')) (by
          unfold fX2_bestCuts_9
          dsimp only
          rw [en, if_neg n0, shl_m (by omega), if_neg (nI_ge (by omega) (by omega)), e1]
          simp only [Option.bind_some]
          rw [e2]
          simp only [Option.bind_some]
          rw [e3, e4]
          simp only [Option.bind_some]
          rw [if_neg (nI_ne0 c0 (by omega)), if_pos ((icl h5 g7 g6 h7).mpr q), nI_1])]
        exact r1
      · rw [wh_in (s' := (nI b, nI mu, nI md, nI (c + 1), m1, m2, m3)) (by
          unfold fX4_best_23
          dsimp only
          rw [en, shl_m (by omega), if_neg (nI_ge (by omega) (by omega)), e5]
          simp only [Option.bind_some]
          rw [if_neg (nI_pos (by omega)), if_pos ((lcg g4 h4 h3 g5).mpr (key.mp q)), nI_1])]
        exact r2
    · obtain ⟨r, c1, c2, c3, n1, n2, n3, r1, r2⟩ := ih (c + 1) F F' c U L u d le' ab' rw' m1 m2 m3 (by omega) (by omega) (by omega) (by omega) (by omega) g1 g2 g3 g4 g5 g6 g7
      refine ⟨r, c1, c2, c3, n1, n2, n3, ?_, ?_⟩
      · rw [wh_in (s' := (nI c, nI U, nI L, nI (c + 1), le', ab', rw')) (by
          unfold fX2_bestCuts_9
          dsimp only
          rw [en, if_neg n0, shl_m (by omega), if_neg (nI_ge (by omega) (by omega)), e1]
          simp only [Option.bind_some]
          rw [e2]
          simp only [Option.bind_some]
          rw [e3, e4]
          simp only [Option.bind_some]
          rw [if_neg (nI_ne0 c0 (by omega)), if_neg (fun z => q ((icl h5 g7 g6 h7).mp z)), nI_1])]
        exact r1
      · rw [wh_in (s' := (nI c, nI u, nI d, nI (c + 1), m1, m2, m3)) (by
          unfold fX4_best_23
          dsimp only
          rw [en, shl_m (by omega), if_neg (nI_ge (by omega) (by omega)), e5]
          simp only [Option.bind_some]
          rw [if_neg (nI_pos (by omega)), if_neg (fun z => q (key.mpr ((lcg g4 h4 h3 g5).mp z))), nI_1])]
        exact r2
section BEST
variable {B : Nat} {ask mtr : Int64} {gw gh top kep don mw mh mke mnx mdo : Int32} {gl : Nat → Int64} {vc vf ki ow wa ce mk mo mwa mmc mmf : Nat → Int32}
theorem b_best (h : BoR B ask gw gh gl top kep don vc vf ki ow wa mw mh mke mnx mdo mtr ce mk mo mwa mmc mmf) (bx tt mma mto mah mrs mab : Int32) (pl we le ab rw mwe mla : Nat → Int32) :
    ∃ r c1 c2 c3 c4 c5 c6 c7 m1 m2 m3 m4 m5 m6 m7, fX3_best gl bx tt pl we le ab rw = some (r, c1, c2, c3, c4, c5, c6, c7) ∧ fX4_best mw mh mma mto mah mrs mab ce mwe mla = some (r, m1, m2, m3, m4, m5, m6, m7) := by
  obtain ⟨W, H, cell, kk, ws, rfl, rfl, rfl, rfl, rfl, hR, hk1, hk2, hw1, hw2, ho, hM⟩ := h
  have h6 := ppl_6 cell
  obtain ⟨pl', we', er, hpl', hwe'⟩ := read_eq hR.2.1 bx tt pl we
  obtain ⟨wm, la, ew, hwm⟩ := weigh_eq hR.1 hR.2.2 mma mto mwe mla
  by_cases hz : ppl cell 6 = 0
  · refine ⟨-9, _, _, _, _, _, _, _, _, _, _, _, _, _, _, by unfold fX3_best; rw [er]; simp only [Option.bind_some]; rw [if_pos (show nI (ppl cell 6) = 0 by rw [hz]; rfl)], by unfold fX4_best; rw [ew]; simp only [Option.bind_some]; rw [if_pos (show nI (ppl cell 6) = 0 by rw [hz]; rfl)]⟩
  · have hn : 0 < ppl cell 6 := by omega
    have hp5 : 2 ^ (ppl cell 6 - 1) ≤ 2 ^ 5 := Nat.pow_le_pow_right (by decide) (by omega)
    have hp1 : 1 ≤ 2 ^ (ppl cell 6 - 1) := Nat.two_pow_pos _
    have en : nI (ppl cell 6) - (1 : Int32) = nI (ppl cell 6 - 1) := pk_sub (b := 1) (by omega)
    have n0 : ¬ nI (ppl cell 6 - 1) < 0 := nI_pos (by omega)
    have hw' : ∀ k, k < ppl cell 6 → wm k = nI (wtn cell k) := fun k hk => (hwm k hk).1
    obtain ⟨le', ab', rw', j, U, L, u, d, m1, m2, m3, e1, e2, e3, e4, e5, g1, g2, g3, g4, g5, g6, g7⟩ := cut_both (x := nI 0) (la := la) hn hwe' hw' le ab rw (-1) 0 1 mah mrs mab mah mrs mab
    obtain ⟨r, c1, c2, c3, n1, n2, n3, r1, r2⟩ := cuts_loops (la := la) hn hwe' hw' (2 ^ (ppl cell 6 - 1) - 1) 1 9999 9999 0 U L u d le' ab' rw' m1 m2 m3 (by omega) (by omega) (by omega) (by omega) (by omega) g1 g2 g3 g4 g5 g6 g7
    have x1 : wh (fX2_bestCuts_9 (nI (ppl cell 6)) (nI (dS (cnt cell) 6)) we') FU ((0 : Int32), (0 : Int32), (0 : Int32), (0 : Int32), le, ab, rw) = some (r, c1, c2, c3) := by
      show wh _ (9999 + 1) _ = _
      rw [wh_in (s' := (nI 0, nI U, nI L, nI 1, le', ab', rw')) (by
        unfold fX2_bestCuts_9
        dsimp only
        rw [en, if_neg n0, shl_m (by omega), if_neg (show ¬ nI (2 ^ (ppl cell 6 - 1)) ≤ 0 from nI_nle (by omega) (by omega)), show fX2_lay 0 (nI (ppl cell 6)) we' le ab rw = _ from e1]
        simp only [Option.bind_some]
        rw [e2]
        simp only [Option.bind_some]
        rw [e3, e4]
        rfl)]
      exact r1
    have x2 : wh (fX4_best_23 (nI (ppl cell 6), nI (dS (cnt cell) 6), wm, la)) FU ((-1 : Int32), (0 : Int32), (1 : Int32), (0 : Int32), mah, mrs, mab) = some (r, n1, n2, n3) := by
      show wh _ (9999 + 1) _ = _
      rw [wh_in (s' := (nI 0, nI u, nI d, nI 1, m1, m2, m3)) (by
        unfold fX4_best_23
        dsimp only
        rw [en, shl_m (by omega), if_neg (show ¬ nI (2 ^ (ppl cell 6 - 1)) ≤ 0 from nI_nle (by omega) (by omega)), show wh (fX4_best_45 (nI (ppl cell 6), nI (dS (cnt cell) 6), wm, la) ((-1 : Int32), (0 : Int32), (1 : Int32), (0 : Int32), mah, mrs, mab)) FU ((0 : Int32), (1 : Int32), (0 : Int32), mah, mrs, mab) = _ from e5]
        simp only [Option.bind_some]
        rw [if_pos (by decide)]
        rfl)]
      exact r2
    have b0 : ¬ nI (ppl cell 6) = 0 := nI_ne0 hn (by omega)
    refine ⟨r, nI (ppl cell 6), nI (dS (cnt cell) 6), pl', we', c1, c2, c3, nI (ppl cell 6), nI (dS (cnt cell) 6), n1, n2, n3, wm, la, ?_, ?_⟩
    · unfold fX3_best fX2_bestCuts
      rw [er]
      simp only [Option.bind_some]
      rw [if_neg b0, x1]
      rfl
    · unfold fX4_best
      rw [ew]
      simp only [Option.bind_some]
      rw [if_neg b0, x2]
      rfl
end BEST

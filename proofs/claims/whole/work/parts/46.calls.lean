/-! board, set, at, size, whole, touch, kind, about, on both sides -/
section CALLS
variable {B : Nat} {ask mtr : Int64} {gw gh top kep don mw mh mke mnx mdo : Int32} {gl : Nat → Int64} {vc vf ki ow wa ce mk mo mwa mmc mmf : Nat → Int32}
theorem in_no {x a b : Int32} (h : x < a ∨ b < x) : fX4_in x a b = 0 := by
  unfold fX4_in
  by_cases q : x < a
  · rw [if_pos q]
  · rw [if_neg q, if_pos (h.resolve_left q)]
theorem in_yes {x a b : Int32} (h1 : ¬ x < a) (h2 : ¬ b < x) : fX4_in x a b = 1 := by
  unfold fX4_in
  rw [if_neg h1, if_neg h2]
theorem nI_up {k : Nat} {x : Int32} (hk : k < 2 ^ 31) (h1 : ¬ x < 0) (h2 : ¬ nI k < x) : ∃ a, a ≤ k ∧ x = nI a := by
  obtain ⟨a, ha, rfl⟩ := nI_of h1
  exact ⟨a, Nat.le_of_not_lt (fun z => h2 ((nI_ltI hk ha).mpr z)), rfl⟩
theorem nI_up1 {k : Nat} {x : Int32} (hk : k < 2 ^ 31) (h1 : ¬ x < 1) (h2 : ¬ nI k < x) : ∃ a, 1 ≤ a ∧ a ≤ k ∧ x = nI a := by
  have h0 : ¬ x < 0 := fun z => h1 (Int32.lt_trans z (by decide))
  obtain ⟨a, ha, rfl⟩ := nI_up hk h0 h2
  exact ⟨a, Nat.le_of_not_lt (fun z => h1 ((nI_ltI (b := 1) (by omega) (by decide)).mpr z)), ha, rfl⟩
theorem nl_le {x y : Int32} (h : ¬ y < x) : x ≤ y := Int32.not_lt.mp h
theorem nlt_le {x y : Int32} (h : y < x) : ¬ x ≤ y := fun z => Int32.not_le.mpr h z
theorem b_board (h : BoR B ask gw gh gl top kep don vc vf ki ow wa mw mh mke mnx mdo mtr ce mk mo mwa mmc mmf) (x y : Int32) :
    ∃ r gw' gh' gl' kep' ki' ow' mke' ce' mk' mo', fX3_board x y gw gh gl kep ki ow = some (r, gw', gh', gl', kep', ki', ow') ∧ fX4_board x y mw mh mke ce mk mo = some (r, gw', gh', mke', ce', mk', mo') ∧ BoR B ask gw' gh' gl' top kep' don vc vf ki' ow' wa gw' gh' mke' mnx mdo mtr ce' mk' mo' mwa mmc mmf := by
  have hk : gw = mw ∧ gh = mh := by
    obtain ⟨W, H, cell, kk, ws, e1, e2, e3, e4, -⟩ := h
    exact ⟨e1.trans e3.symm, e2.trans e4.symm⟩
  have same : ∀ q1 : fX3_board x y gw gh gl kep ki ow = some (-1, gw, gh, gl, kep, ki, ow), ∀ q2 : fX4_board x y mw mh mke ce mk mo = some (-1, mw, mh, mke, ce, mk, mo), ∃ r gw' gh' gl' kep' ki' ow' mke' ce' mk' mo', fX3_board x y gw gh gl kep ki ow = some (r, gw', gh', gl', kep', ki', ow') ∧ fX4_board x y mw mh mke ce mk mo = some (r, gw', gh', mke', ce', mk', mo') ∧ BoR B ask gw' gh' gl' top kep' don vc vf ki' ow' wa gw' gh' mke' mnx mdo mtr ce' mk' mo' mwa mmc mmf := by
    intro q1 q2
    obtain ⟨rfl, rfl⟩ := hk
    exact ⟨_, _, _, _, _, _, _, _, _, _, _, q1, q2, h⟩
  by_cases x1 : x < 1
  · exact same (by unfold fX3_board; rw [if_pos x1]) (by unfold fX4_board; rw [in_no (Or.inl x1), if_pos rfl])
  · by_cases x8 : (8 : Int32) < x
    · exact same (by unfold fX3_board; rw [if_neg x1, if_pos x8]) (by unfold fX4_board; rw [in_no (Or.inr x8), if_pos rfl])
    · by_cases y1 : y < 1
      · exact same (by unfold fX3_board; rw [if_neg x1, if_neg x8, if_pos y1]) (by unfold fX4_board; rw [in_yes x1 x8, if_neg (by decide), in_no (Or.inl y1), if_pos rfl])
      · by_cases y8 : (8 : Int32) < y
        · exact same (by unfold fX3_board; rw [if_neg x1, if_neg x8, if_neg y1, if_neg (nlt_le y8)]) (by unfold fX4_board; rw [in_yes x1 x8, if_neg (by decide), in_no (Or.inr y8), if_pos rfl])
        · have ex4 : fX4_board x y mw mh mke ce mk mo = some (x * y, x, y, 0, (fun j => if j < 64 then -4 else ce j), (fun j => if j < 6 then 0 else mk j), (fun j => if j < 6 then -1 else mo j)) := by
            unfold fX4_board
            rw [in_yes x1 x8, if_neg (by decide), in_yes y1 y8, if_neg (by decide), clears_eq]
            rfl
          have c1 := x1
          have c8 := x8
          have d1 := y1
          have d8 := y8
          obtain ⟨W, w1, w8, rfl⟩ := nI_up1 (k := 8) (by decide) x1 x8
          obtain ⟨H, h1, h8, rfl⟩ := nI_up1 (k := 8) (by decide) y1 y8
          have hok : WHok W H := ⟨w1, w8, h1, h8⟩
          have ex3 : fX3_board (nI W) (nI H) gw gh gl kep ki ow = some (nI W * nI H, nI W, nI H, (fun j => if j < 6 then 0 else gl j), fX1_forget kep, (fun j => if j < 6 then 0 else ki j), (fun j => if j < 6 then -9 else ow j)) := by
            unfold fX3_board
            rw [if_neg c1, if_neg c8, if_neg d1, if_pos (nl_le d8), clear_eq W H]
            simp only [Option.bind_some, kinds_eq]
          obtain ⟨W0, H0, cell, kk, ws, e1, e2, e3, e4, e5, hR, hk1, hk2, hw1, hw2, ho, hM⟩ := h
          exact ⟨_, _, _, _, _, _, _, _, _, _, _, ex3, ex4, W, H, fun _ => -4, fun _ => 0, ws, rfl, rfl, rfl, rfl, e5, sea_RB hok gl ce, KK0 ki, KK0 mk, hw1, hw2, OWN0 W H ow mo, hM.forget⟩
theorem sea_or (v : Int32) : (okv v ∧ fX3_isLandOrSea v = 1 ∧ (v = -4 ∨ (¬ v = -4 ∧ fX4_isLand v = 1))) ∨ (¬ okv v ∧ fX3_isLandOrSea v = 0 ∧ ¬ v = -4 ∧ fX4_isLand v = 0) := by
  unfold fX3_isLandOrSea
  by_cases q : v = -4
  · exact Or.inl ⟨Or.inl q, if_pos q, Or.inl q⟩
  · rw [if_neg q]
    rcases land_c v with ⟨l, hl, e, h1, h2⟩ | ⟨h0, h1, h2⟩
    · exact Or.inl ⟨Or.inr ⟨l, hl, e⟩, by rw [h1, if_neg (by decide)], Or.inr ⟨q, h2⟩⟩
    · refine Or.inr ⟨?_, by rw [h1, if_pos rfl], q, h2⟩
      rintro (e | ⟨l, hl, e⟩)
      · exact q e
      · exact h0 l hl e
theorem mc_at {W H : Nat} {cell : Nat → Int32} (h : WHok W H) (hm : MC W H cell ce) {i : Nat} (hi : onb W H i) : ce (ci8 W i) = cell i := by rw [hm _ (ci_lt h hi), fi_ci h hi]
theorem b_set (h : BoR B ask gw gh gl top kep don vc vf ki ow wa mw mh mke mnx mdo mtr ce mk mo mwa mmc mmf) (x y v : Int32) :
    ∃ r gl' kep' mke' ce', fX3_set x y v gw gh gl kep = some (r, gl', kep') ∧ fX4_set x y v mw mh mke ce = some (r, mke', ce') ∧ BoR B ask gw gh gl' top kep' don vc vf ki ow wa mw mh mke' mnx mdo mtr ce' mk mo mwa mmc mmf := by
  obtain ⟨W, H, cell, kk, ws, rfl, rfl, rfl, rfl, rfl, hR, hk1, hk2, hw1, hw2, ho, hM⟩ := id h
  have hok : WHok W H := hR.1.1
  rcases on_c hok x y with ⟨i, hi, a1, a2, a3, -⟩ | ⟨a1, a3, -⟩
  · have hi64 := onb_lt hok.2.2.2 hi
    have hc := ci_lt hok hi
    have hWH := WH_le hok
    rcases sea_or v with ⟨b1, b2, b3⟩ | ⟨-, b2, b3, b4⟩
    · refine ⟨cell i, putf gl (fX3_bit (nI i)) v 6, fX1_forget kep, 0, upd ce (ci8 W i) v, ?_, ?_, W, H, _, kk, ws, rfl, rfl, rfl, rfl, rfl, gone_upd hR hi b1, hk1, hk2, hw1, hw2, ho, hM.forget⟩
      · unfold fX3_set
        rw [a1, b2, if_neg (by decide), if_neg (by decide), a2, landOf_eq hR.2.1 hi64 (hR.1.2.2 i)]
        simp only [Option.bind_some, put_eq]
      · have hv : (if ix (nI (ci8 W i)) 64 = true then (lt (ce ((nI (ci8 W i))).toNatClampNeg) fun v35 => (if ix (nI (ci8 W i)) 64 = true then (some (v35, (0 : Int32), (upd ce ((nI (ci8 W i))).toNatClampNeg v))) else none)) else none) = some (cell i, 0, upd ce (ci8 W i) v) := by
          rw [if_pos (ix64 (by omega)), cl64 (by omega), mc_at hok hR.2.2 hi]
          exact if_pos (ix64 (by omega))
        unfold fX4_set
        rw [a3, if_neg (nI_pos (by omega))]
        rcases b3 with q | ⟨q, q2⟩
        · rw [if_pos q]; exact hv
        · rw [if_neg q, q2, if_neg (by decide)]; exact hv
    · refine ⟨-1, gl, kep, mke, ce, ?_, ?_, h⟩
      · unfold fX3_set
        rw [a1, b2, if_neg (by decide), if_pos rfl]
      · unfold fX4_set
        rw [a3, if_neg (nI_pos (by omega)), if_neg b3, b4, if_pos rfl]
  · refine ⟨-1, gl, kep, mke, ce, ?_, ?_, h⟩
    · unfold fX3_set
      rw [a1, if_pos rfl]
    · unfold fX4_set
      rw [a3, if_pos (by decide)]
theorem b_at (h : BoR B ask gw gh gl top kep don vc vf ki ow wa mw mh mke mnx mdo mtr ce mk mo mwa mmc mmf) (x y : Int32) : ∃ r, fX3_at x y gw gh gl = some r ∧ fX4_at x y mw mh ce = some r := by
  obtain ⟨W, H, cell, kk, ws, rfl, rfl, rfl, rfl, rfl, hR, hk1, hk2, hw1, hw2, ho, hM⟩ := h
  have hok : WHok W H := hR.1.1
  rcases on_c hok x y with ⟨i, hi, a1, a2, a3, -⟩ | ⟨a1, a3, -⟩
  · have hi64 := onb_lt hok.2.2.2 hi
    have hc := ci_lt hok hi
    have hWH := WH_le hok
    refine ⟨cell i, ?_, ?_⟩
    · unfold fX3_at
      rw [a1, if_neg (by decide), a2, landOf_eq hR.2.1 hi64 (hR.1.2.2 i)]
      rfl
    · unfold fX4_at
      rw [a3, if_pos (nI_pos' (by omega)), if_pos (ix64 (by omega)), cl64 (by omega), mc_at hok hR.2.2 hi]
  · refine ⟨-1, ?_, ?_⟩
    · unfold fX3_at
      rw [a1, if_pos rfl]
    · unfold fX4_at
      rw [a3, if_neg (by decide)]
theorem b_size (h : BoR B ask gw gh gl top kep don vc vf ki ow wa mw mh mke mnx mdo mtr ce mk mo mwa mmc mmf) (x : Int32) : ∃ r, fX3_size x gl = some r ∧ fX4_size x mw mh ce = some r := by
  obtain ⟨W, H, cell, kk, ws, rfl, rfl, rfl, rfl, rfl, hR, hk1, hk2, hw1, hw2, ho, hM⟩ := h
  rcases land_c x with ⟨l, hl, rfl, h1, h2⟩ | ⟨h0, h1, h2⟩
  · refine ⟨nI (cnt cell l), ?_, ?_⟩
    · unfold fX3_size
      rw [h1, if_neg (by decide), sizeOf_in hR.2.1 hl]; rfl
    · unfold fX4_size
      rw [h2, if_neg (by decide), msize_l hR.1 hR.2.2 hl]; rfl
  · exact ⟨-1, by unfold fX3_size; rw [h1, if_pos rfl], by unfold fX4_size; rw [h2, if_pos rfl]⟩
theorem ans_tf (P : Prop) : fX3_answer (tf P) = tf P := by
  unfold fX3_answer
  rcases tf_c P with ⟨h, e⟩ | ⟨h, e⟩
  · rw [e, if_neg (by decide)]
  · rw [e, if_pos rfl]
theorem b_whole (h : BoR B ask gw gh gl top kep don vc vf ki ow wa mw mh mke mnx mdo mtr ce mk mo mwa mmc mmf) (x : Int32) (pi me : Nat → Int32) : ∃ r pi' me', fX3_whole x gl = some r ∧ fX4_whole x mw mh ce pi me = some (r, pi', me') := by
  obtain ⟨W, H, cell, kk, ws, rfl, rfl, rfl, rfl, rfl, hR, hk1, hk2, hw1, hw2, ho, hM⟩ := h
  have hok : WHok W H := hR.1.1
  rcases land_c x with ⟨l, hl, rfl, h1, h2⟩ | ⟨h0, h1, h2⟩
  · obtain ⟨pi', me', e⟩ := mwhole_eq hok hR.2.2 (nI l) pi me
    have hs : (fun i => Bt (gl l) i = true) = (fun i => onb W H i ∧ cell i = nI l) := by
      rw [CR.fn hR.1 hR.2.1 hl]
      funext i
      exact propext ⟨fun z => ⟨hR.1.on hl z, z⟩, fun z => z.2⟩
    refine ⟨tf (Whole (fun i => onb W H i ∧ cell i = nI l)), pi', me', ?_, ?_⟩
    · unfold fX3_whole
      rw [h1, if_neg (by decide), cellsOf_in hl]
      simp only [Option.bind_some]
      rw [isWhole_eq, hs]
      simp only [Option.bind_some]
      rw [ans_tf]
    · unfold fX4_whole
      rw [h2, if_neg (by decide), e]
      simp only [Option.bind_some]
      rcases tf_c (Whole (fun i => onb W H i ∧ cell i = nI l)) with ⟨-, q⟩ | ⟨-, q⟩
      · rw [q, if_neg (by decide)]
      · rw [q, if_pos rfl]
  · exact ⟨-1, pi, me, by unfold fX3_whole; rw [h1, if_pos rfl], by unfold fX4_whole; rw [h2, if_pos rfl]⟩
theorem bit_at {k : Nat} (hk : k < 64) (x : Int64) : (x >>> ((nI k).toInt64 &&& 63)) &&& (1 : Int64) = 1 ↔ Bt x k = true := by
  constructor
  · intro e
    have h : Bt ((x >>> ((nI k).toInt64 &&& 63)) &&& (1 : Int64)) 0 = Bt 1 0 := congrArg (fun z => Bt z 0) e
    rw [Bt_and, Bt_1 0 (by omega), Bt_sshr k hk _ (by omega), Nat.add_zero, if_pos hk] at h
    simpa using h
  · intro e
    refine Bt_ext (fun i hi => ?_)
    rw [Bt_and, Bt_1 i hi]
    by_cases q : i = 0
    · subst q
      rw [Bt_sshr k hk _ (by omega), Nat.add_zero, if_pos hk, e]; rfl
    · simp [q]
theorem mare_eq {W H : Nat} {cell : Nat → Int32} (hb : BD W H cell) (hm : MC W H cell ce) {x y : Int32} (hx : okv x) (hy : okv y) (hne : nu x ≠ nu y) : fX4_areTouching x y (nI W) (nI H) ce = some (tf (TP W H cell (nu x) (nu y))) := by
  have hv : ∀ c, c < W * H → okv (ce c) := fun c hc => by rw [hm c hc]; exact hb.2.2 _
  obtain ⟨t, e, ht⟩ := touches_eq hb.1 hv
  have h1 := nu_lt hx
  have h2 := nu_lt hy
  unfold fX4_areTouching
  rw [e]
  simp only [Option.bind_some, cmpP]
  rw [numberOf_eq hx, numberOf_eq hy, n7s]
  have key := (bit_at (k := 7 * nu x + nu y) (by omega) t).trans ((ht _ (by omega)).trans (MTB_TP hb hm h1 h2 hne))
  rcases tf_c (TP W H cell (nu x) (nu y)) with ⟨q, e2⟩ | ⟨q, e2⟩
  · rw [if_pos (key.mpr q), e2]
  · rw [if_neg (fun z => q (key.mp z)), e2]
theorem isAtSea_l {W H : Nat} {cell : Nat → Int32} (hR : RB W H cell gl ce) {l : Nat} (hl : l < 6) : fX0_isAtSea (gl l) gl = some (tf (SeaT W H cell (fun i => cell i = nI l))) := by
  rw [isAtSea_eq hR.2.1 hR.1.2.2 hR.1.bs (gl l) (fun i hi z => hR.1.on hl ((hR.2.1 l hl i hi).mp z)), CR.fn hR.1 hR.2.1 hl]
theorem tf_ans (P : Prop) : (if tf P = 0 then some (0 : Int32) else some 1) = some (tf P) := by
  rcases tf_c P with ⟨-, e⟩ | ⟨-, e⟩
  · rw [e, if_neg (by decide)]
  · rw [e, if_pos rfl]
theorem b_touch (h : BoR B ask gw gh gl top kep don vc vf ki ow wa mw mh mke mnx mdo mtr ce mk mo mwa mmc mmf) (x y : Int32) : ∃ r, fX3_touch x y gl = some r ∧ fX4_touch x y mw mh ce = some r := by
  obtain ⟨W, H, cell, kk, ws, rfl, rfl, rfl, rfl, rfl, hR, hk1, hk2, hw1, hw2, ho, hM⟩ := h
  have ntch : ∀ {u v : Int32}, okv u → okv v → ¬ u = v → nu u ≠ nu v := by
    intro u v hu hv hne e
    rcases hv with q | ⟨l, hl, q⟩
    · subst q
      rw [nu_s] at e
      exact hne ((nu_6 hu).mp e)
    · subst q
      rw [nu_l hl] at e
      exact hne ((nu_e hu hl).mp e)
  rcases sea_or x with ⟨a1, a2, a3⟩ | ⟨-, a2, a3, a4⟩
  · rcases sea_or y with ⟨b1, b2, b3⟩ | ⟨-, b2, b3, b4⟩
    · by_cases exy : x = y
      · refine ⟨-1, by unfold fX3_touch; rw [a2, if_neg (by decide), b2, if_neg (by decide), if_pos exy], ?_⟩
        unfold fX4_touch
        rcases a3 with q | ⟨q, q2⟩
        · rw [if_pos q, if_pos (show y = -4 from exy ▸ q), if_pos exy]
        · rw [if_neg q, q2, if_neg (by decide), if_neg (show ¬ y = -4 from exy ▸ q), show fX4_isLand y = 1 from exy ▸ q2, if_neg (by decide), if_pos exy]
      · have hn := ntch a1 b1 exy
        have em := mare_eq hR.1 hR.2.2 a1 b1 hn
        refine ⟨tf (TP W H cell (nu x) (nu y)), ?_, ?_⟩
        · unfold fX3_touch
          rw [a2, if_neg (by decide), b2, if_neg (by decide), if_neg exy]
          by_cases q : x = -4
          · rw [if_pos q]
            obtain ⟨l, hl, e⟩ := b1.resolve_left (fun z => exy (q.trans z.symm))
            subst e; subst q
            rw [cellsOf_in hl]
            simp only [Option.bind_some]
            rw [isAtSea_l hR hl]
            simp only [Option.bind_some]
            rw [ans_tf, nu_s, nu_l hl]
            unfold TP
            rw [if_pos rfl]
          · rw [if_neg q]
            obtain ⟨l, hl, e⟩ := a1.resolve_left q
            subst e
            by_cases q2 : y = -4
            · rw [if_pos q2, cellsOf_in hl]
              simp only [Option.bind_some]
              rw [isAtSea_l hR hl]
              simp only [Option.bind_some]
              subst q2
              rw [ans_tf, nu_s, nu_l hl]
              unfold TP
              rw [if_neg (by omega), if_pos rfl]
            · rw [if_neg q2]
              obtain ⟨t, ht, e⟩ := b1.resolve_left q2
              subst e
              rw [cellsOf_in hl, cellsOf_in ht]
              simp only [Option.bind_some, cmpP]
              have g := TT_gl hR.2.1 hl ht
              have eT : TP W H cell l t = TT cell l t := by unfold TP; rw [if_neg (by omega), if_neg (by omega)]
              rw [nu_l hl, nu_l ht, eT]
              rcases tf_c (TT cell l t) with ⟨z, e2⟩ | ⟨z, e2⟩
              · rw [if_neg (g.mpr z), e2]; rfl
              · rw [if_pos (Classical.byContradiction (fun w => z (g.mp w))), e2]; rfl
        · unfold fX4_touch
          rw [em]
          simp only [Option.bind_some, tf_ans]
          rcases a3 with q | ⟨q, q2⟩
          · rw [if_pos q]
            rcases b3 with p | ⟨p, p2⟩
            · exact absurd (q.trans p.symm) exy
            · rw [if_neg p, p2, if_neg (by decide), if_neg exy]
          · rw [if_neg q, q2, if_neg (by decide)]
            rcases b3 with p | ⟨p, p2⟩
            · rw [if_pos p, if_neg exy]
            · rw [if_neg p, p2, if_neg (by decide), if_neg exy]
    · refine ⟨-1, by unfold fX3_touch; rw [a2, if_neg (by decide), b2, if_pos rfl], ?_⟩
      unfold fX4_touch
      rcases a3 with q | ⟨q, q2⟩
      · rw [if_pos q, if_neg b3, b4, if_pos rfl]
      · rw [if_neg q, q2, if_neg (by decide), if_neg b3, b4, if_pos rfl]
  · refine ⟨-1, by unfold fX3_touch; rw [a2, if_pos rfl], ?_⟩
    unfold fX4_touch
    rw [if_neg a3, a4, if_pos rfl]
end CALLS

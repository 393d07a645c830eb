/-! years and counts, on both sides -/
section YEARS
variable {B : Nat} {ask mtr : Int64} {gw gh top kep don mw mh mke mnx mdo : Int32} {gl : Nat → Int64} {vc vf ki ow wa ce mk mo mwa mmc mmf mhy myw myh myr : Nat → Int32}
/-- a kept board, as the class and as the model hold it -/
def YR (y : Nat) (gw2 gh2 : Int32) (gl2 : Nat → Int64) (myw myh myr : Nat → Int32) : Prop := ∃ W H cell, gw2 = nI W ∧ gh2 = nI H ∧ myw y = nI W ∧ myh y = nI H ∧ RB W H cell gl2 (fun c => myr (64 * y + c))
theorem year_c (x : Int32) : (∃ y, y < 4 ∧ x = nI y ∧ fX3_isYear x = 1 ∧ fX4_isYear x = 1) ∨ (fX3_isYear x = 0 ∧ fX4_isYear x = 0) := by
  unfold fX3_isYear fX4_isYear
  by_cases n0 : x < 0
  · exact Or.inr ⟨if_pos n0, in_no (Or.inl n0)⟩
  · by_cases n3 : (3 : Int32) < x
    · refine Or.inr ⟨?_, in_no (Or.inr n3)⟩
      obtain ⟨a, ha, rfl⟩ := nI_of n0
      have : 3 < a := (nI_ltI (a := 3) (by decide) ha).mp n3
      rw [if_neg n0, if_pos (show (4 : Int32) ≤ nI a from nI_le (a := 4) (by omega) ha)]
    · have hin := in_yes n0 n3
      obtain ⟨y, hy, rfl⟩ := nI_up (k := 3) (by decide) n0 n3
      exact Or.inl ⟨y, by omega, rfl, by rw [if_neg n0, if_neg (n4 (by omega))], hin⟩
theorem ix4 {k : Nat} (h : k < 4) : ix (nI k) 4 = true := by rw [ix_nI (by omega)]; exact h
theorem cl4 {k : Nat} (h : k < 4) : (nI k).toNatClampNeg = k := nI_clamp (by omega)
theorem ix256 {k : Nat} (h : k < 256) : ix (nI k) 256 = true := by rw [ix_nI (by omega)]; exact h
theorem cl256 {k : Nat} (h : k < 256) : (nI k).toNatClampNeg = k := nI_clamp (by omega)
theorem yix {y c : Nat} : ((64 : Int32) * nI y) + nI c = nI (64 * y + c) := by
  rw [show (64 : Int32) = nI 64 from rfl, pk_mul, nI_add]
theorem CR_cong {cell : Nat → Int32} {gl gl' : Nat → Int64} (h : CR cell gl) (e : ∀ l, l < 6 → gl' l = gl l) : CR cell gl' := fun l hl i hi => by rw [e l hl]; exact h l hl i hi
theorem copy_eq (gw gh : Int32) (gl : Nat → Int64) (gw2 gh2 : Int32) (gl2 : Nat → Int64) : fX0_copy gw gh gl gw2 gh2 gl2 = some (gw2, gh2, fun j => if j < 6 then gl2 j else gl j) := by
  have e := wh_cnt (f := fX0_copy_18 gl2) (fun k => (nI k, fun j => if j < k then gl2 j else gl j)) 6 FU (t := fun j => if j < 6 then gl2 j else gl j) (fun k hk => by
    unfold fX0_copy_18
    dsimp only
    rw [if_neg (n6 hk), if_pos (ix6 hk), if_pos (ix6 hk), cl6 hk, nI_1]
    refine congrArg (fun z => some (Sum.inl (nI (k + 1), z))) (funext fun j => ?_)
    unfold vp_updL
    by_cases q : j = k
    · subst q; rw [if_pos rfl, if_pos (by omega)]
    · rw [if_neg q]
      show (if j < k then gl2 j else gl j) = _
      by_cases q2 : j < k
      · rw [if_pos q2, if_pos (by omega)]
      · rw [if_neg q2, if_neg (by omega)]) (by unfold fX0_copy_18; exact if_pos g6) (by decide)
  have e0 : (fun j => if j < 0 then gl2 j else gl j) = gl := funext fun j => if_neg (by omega)
  rw [e0] at e
  unfold fX0_copy
  rw [show ((0 : Int32), gl) = (nI 0, gl) from rfl, e]
  rfl
theorem land_both {W H : Nat} {cell : Nat → Int32} (hR : RB W H cell gl ce) : ∃ r, fX0_landCells gl = some r ∧ fX4_landCells (nI W) (nI H) ce = some r := by
  have hok : WHok W H := hR.1.1
  have hWH := WH_le hok
  refine ⟨_, landCells_eq hR.2.1 hR.1.2.2, ?_⟩
  unfold fX4_landCells
  rw [msize_eq hok (-4)]
  simp only [Option.bind_some]
  rw [mulWH, pk_sub (fb_ct_le _ _)]
  refine congrArg (fun z => some (nI z)) ?_
  have h1 := fb_ct_not (fun c => decide (ce c = -4)) (W * H)
  have h2 := ct_MC hok hR.2.2 (fun v => !decide (v = -4))
  have h3 : fb_ct (fun i => (decide (i % 8 < W) && decide (i / 8 < H)) && !decide (cell i = -4)) 64 = fb_ct (fun i => decide (¬ cell i = -4)) 64 := by
    refine fb_ct_cong (fun i _ => ?_)
    by_cases q : cell i = -4
    · simp [q]
    · have hon : onb W H i := Classical.byContradiction (fun z => q (hR.1.2.1 i z))
      unfold onb at hon
      simp [q, hon.1, hon.2]
  rw [← h3, ← h2]
  omega
theorem keep_loop {W H y : Nat} (hok : WHok W H) (hy : y < 4) (ce myr : Nat → Int32) : wh (fX4_keep_38 (nI y) (nI W) (nI H) ce) FU (nI 0, myr) = some (inr (64 * y) (64 * y + W * H) (fun j => ce (j - 64 * y)) myr) := by
  have hWH := WH_le hok
  have e := wh_cnt (f := fX4_keep_38 (nI y) (nI W) (nI H) ce) (fun k => (nI k, inr (64 * y) (64 * y + k) (fun j => ce (j - 64 * y)) myr)) (W * H) FU (t := inr (64 * y) (64 * y + W * H) (fun j => ce (j - 64 * y)) myr) (fun k hk => by
    unfold fX4_keep_38
    dsimp only
    rw [mulWH, if_neg (nI_ge hk (by omega)), if_pos (ix64 (by omega)), yix, if_pos (ix256 (by omega)), cl256 (by omega), cl64 (by omega), nI_1, inr_up]
    rw [show 64 * y + k - 64 * y = k by omega]) (by
    unfold fX4_keep_38
    dsimp only
    rw [mulWH, if_pos (Int32.le_refl _)]) (by unfold FU; omega)
  rw [inr_0] at e
  exact e
theorem b_keep0 (x : Int32) (h : fX4_isYear x = 0) : fX4_keep x mw mh ce mhy myw myh myr = some (-1, mhy, myw, myh, myr) := by
  unfold fX4_keep
  rw [if_pos h]
theorem b_keep (h : BoR B ask gw gh gl top kep don vc vf ki ow wa mw mh mke mnx mdo mtr ce mk mo mwa mmc mmf) {y : Nat} (hy : y < 4) (mhy myw myh myr : Nat → Int32) :
    ∃ r gl1 mhy' myw' myh' myr', fX3_keepN (nI y) gw gh gl = some (r, gw, gh, gl1) ∧ YR y gw gh gl1 myw' myh' myr' ∧ (∀ gw2 gh2 gl2, ∃ gl2', fX3_keepO (nI y) gw gh gl gw2 gh2 gl2 = some (r, gw, gh, gl2') ∧ YR y gw gh gl2' myw' myh' myr') ∧ fX4_keep (nI y) mw mh ce mhy myw myh myr = some (r, mhy', myw', myh', myr') ∧ mhy' y = 1 ∧ ∀ z, z < 4 → z ≠ y → mhy' z = mhy z ∧ ∀ gw2 gh2 gl2, YR z gw2 gh2 gl2 myw myh myr → YR z gw2 gh2 gl2 myw' myh' myr' := by
  obtain ⟨W, H, cell, kk, ws, rfl, rfl, rfl, rfl, rfl, hR, hk1, hk2, hw1, hw2, ho, hM⟩ := h
  have hok : WHok W H := hR.1.1
  have hWH := WH_le hok
  obtain ⟨r, er3, er4⟩ := land_both hR
  have hyr : ∀ gl', (∀ l, l < 6 → gl' l = gl l) → YR y (nI W) (nI H) gl' (upd myw y (nI W)) (upd myh y (nI H)) (inr (64 * y) (64 * y + W * H) (fun j => ce (j - 64 * y)) myr) := by
    intro gl' e
    refine ⟨W, H, cell, rfl, rfl, pk_us, pk_us, hR.1, CR_cong hR.2.1 e, fun c hc => ?_⟩
    show inr (64 * y) (64 * y + W * H) (fun j => ce (j - 64 * y)) myr (64 * y + c) = _
    unfold inr
    rw [if_pos (by omega)]
    show ce (64 * y + c - 64 * y) = _
    rw [show 64 * y + c - 64 * y = c by omega]
    exact hR.2.2 c hc
  refine ⟨r, _, upd mhy y 1, upd myw y (nI W), upd myh y (nI H), _, ?_, hyr (fun j => if j < 6 then gl j else 0) (fun l hl => if_pos hl), fun gw2 gh2 gl2 => ⟨fun j => if j < 6 then gl j else gl2 j, ?_, hyr _ (fun l hl => if_pos hl)⟩, ?_, pk_us, fun z hz hne => ⟨pk_un hne, fun gw2 gh2 gl2 hz2 => ?_⟩⟩
  · unfold fX3_keepN
    rw [if_pos (ix4 hy), if_pos (ix4 hy), copy_eq]
    simp only [Option.bind_some]
    rw [er3]
    rfl
  · have hiy : fX3_isYear (nI y) = 1 := by
      unfold fX3_isYear
      rw [if_neg (nI_pos (by omega)), if_neg (n4 hy)]
    unfold fX3_keepO
    rw [hiy, if_neg (by decide), if_pos (ix4 hy), copy_eq]
    simp only [Option.bind_some]
    rw [er3]
    rfl
  · have hiy : fX4_isYear (nI y) = 1 := by
      rcases year_c (nI y) with ⟨_, _, _, _, e⟩ | ⟨e, _⟩
      · exact e
      · unfold fX3_isYear at e
        rw [if_neg (nI_pos (by omega)), if_neg (n4 hy)] at e
        exact absurd e (by decide)
    unfold fX4_keep
    rw [hiy, if_neg (by decide), if_pos (ix4 hy), if_pos (ix4 hy), if_pos (ix4 hy), cl4 hy, show (0 : Int32) = nI 0 from rfl, keep_loop hok hy]
    simp only [Option.bind_some]
    rw [er4]
    rfl
  · obtain ⟨W2, H2, cell2, a1, a2, a3, a4, a6⟩ := hz2
    have hWH2 := WH_le a6.1.1
    refine ⟨W2, H2, cell2, a1, a2, (pk_un hne).trans a3, (pk_un hne).trans a4, a6.1, a6.2.1, fun c hc => ?_⟩
    show inr (64 * y) (64 * y + W * H) (fun j => ce (j - 64 * y)) myr (64 * z + c) = _
    unfold inr
    rw [if_neg (by omega)]
    exact a6.2.2 c hc
theorem b_back0 (x : Int32) (h3 : fX3_isYear x = 0) (h4 : fX4_isYear x = 0) : fX3_backN x = some (-1) ∧ (∀ gw2 gh2 gl2, fX3_backO x gw gh gl kep ki ow gw2 gh2 gl2 = some (-1, gw, gh, gl, kep, ki, ow)) ∧ fX4_back x mw mh mke ce mk mo mhy myw myh myr = some (-1, mw, mh, mke, ce, mk, mo) := by
  refine ⟨by unfold fX3_backN; rw [if_pos h3], fun _ _ _ => by unfold fX3_backO; rw [if_pos h3], by unfold fX4_back; rw [if_pos h4]⟩
theorem year_in {y : Nat} (hy : y < 4) : fX3_isYear (nI y) = 1 ∧ fX4_isYear (nI y) = 1 := by
  rcases year_c (nI y) with ⟨_, _, _, e, e'⟩ | ⟨e, _⟩
  · exact ⟨e, e'⟩
  · unfold fX3_isYear at e
    rw [if_neg (nI_pos (by omega)), if_neg (n4 hy)] at e
    exact absurd e (by decide)
theorem b_backN {y : Nat} (hy : y < 4) (h0 : mhy y = 0) : fX3_backN (nI y) = some (-2) ∧ fX4_back (nI y) mw mh mke ce mk mo mhy myw myh myr = some (-2, mw, mh, mke, ce, mk, mo) := by
  obtain ⟨e3, e4⟩ := year_in hy
  refine ⟨by unfold fX3_backN; rw [e3, if_neg (by decide), if_pos (ix4 hy)], by unfold fX4_back; rw [e4, if_neg (by decide), if_pos (ix4 hy), cl4 hy, if_pos h0]⟩
theorem back_loop {W H y : Nat} (hok : WHok W H) (hy : y < 4) (hw : myw y = nI W) (hh : myh y = nI H) (ce : Nat → Int32) : wh (fX4_back_43 (nI y) myw myh myr) FU (nI 0, ce) = some (fun j => if j < W * H then myr (64 * y + j) else ce j) := by
  have hWH := WH_le hok
  have e := wh_cnt (f := fX4_back_43 (nI y) myw myh myr) (fun k => (nI k, fun j => if j < k then myr (64 * y + j) else ce j)) (W * H) FU (t := fun j => if j < W * H then myr (64 * y + j) else ce j) (fun k hk => by
    unfold fX4_back_43
    dsimp only
    rw [cl4 hy, hw, hh, mulWH, if_neg (nI_ge hk (by omega)), yix, if_pos (ix256 (by omega)), if_pos (ix64 (by omega)), cl256 (show 64 * y + k < 256 by omega), cl64 (show k < 64 by omega), nI_1]
    refine congrArg (fun z => some (Sum.inl (nI (k + 1), z))) (funext fun j => ?_)
    by_cases q : j = k
    · subst q; rw [pk_us, if_pos (by omega)]
    · rw [pk_un q]
      by_cases q2 : j < k
      · rw [if_pos q2, if_pos (show j < k + 1 by omega)]
      · rw [if_neg q2, if_neg (show ¬ j < k + 1 by omega)]) (by
    unfold fX4_back_43
    dsimp only
    rw [cl4 hy, hw, hh, mulWH, if_pos (Int32.le_refl _)]) (by unfold FU; omega)
  have e0 : (fun j => if j < 0 then myr (64 * y + j) else ce j) = ce := funext fun j => if_neg (by omega)
  rw [e0] at e
  exact e
theorem b_backO (h : BoR B ask gw gh gl top kep don vc vf ki ow wa mw mh mke mnx mdo mtr ce mk mo mwa mmc mmf) {y : Nat} (hy : y < 4) (h1 : mhy y = 1) {gw2 gh2 : Int32} {gl2 : Nat → Int64} (hY : YR y gw2 gh2 gl2 myw myh myr) :
    ∃ r gl' kep' ki' ow' mke' ce' mk' mo', fX3_backO (nI y) gw gh gl kep ki ow gw2 gh2 gl2 = some (r, gw2, gh2, gl', kep', ki', ow') ∧ fX4_back (nI y) mw mh mke ce mk mo mhy myw myh myr = some (r, gw2, gh2, mke', ce', mk', mo') ∧ BoR B ask gw2 gh2 gl' top kep' don vc vf ki' ow' wa gw2 gh2 mke' mnx mdo mtr ce' mk' mo' mwa mmc mmf := by
  obtain ⟨e3, e4⟩ := year_in hy
  obtain ⟨W0, H0, cell0, kk, ws, rfl, rfl, rfl, rfl, rfl, hR0, hk1, hk2, hw1, hw2, ho, hM⟩ := h
  obtain ⟨W, H, cell, rfl, rfl, a3, a4, hRy⟩ := hY
  have hok : WHok W H := hRy.1.1
  have hR : RB W H cell (fun j => if j < 6 then gl2 j else gl j) (fun j => if j < W * H then myr (64 * y + j) else ce j) := ⟨hRy.1, CR_cong hRy.2.1 (fun l hl => if_pos hl), fun c hc => (if_pos hc).trans (hRy.2.2 c hc)⟩
  obtain ⟨r, er3, er4⟩ := land_both hR
  refine ⟨r, _, fX1_forget kep, _, _, 0, _, _, _, ?_, ?_, W, H, cell, fun _ => 0, ws, rfl, rfl, rfl, rfl, rfl, hR, KK0 ki, KK0 mk, hw1, hw2, OWN0 W H ow mo, hM.forget⟩
  · unfold fX3_backO
    rw [e3, if_neg (by decide), if_pos (ix4 hy), copy_eq]
    simp only [Option.bind_some, kinds_eq]
    rw [er3]
    rfl
  · unfold fX4_back
    rw [e4, if_neg (by decide), if_pos (ix4 hy), cl4 hy, h1, if_neg (by decide), if_pos (ix4 hy), if_pos (ix4 hy), show (0 : Int32) = nI 0 from rfl, back_loop hok hy a3 a4]
    simp only [Option.bind_some, plain_eq]
    rw [a3, a4, er4]
    rfl
-- moved
theorem b_moved0 {x1 x2 : Int32} (h : fX3_isYear x1 = 0 ∨ fX3_isYear x2 = 0) : fX3_movedNN x1 x2 = some (-1) ∧ fX3_movedNO x1 x2 = some (-1) ∧ fX3_movedON x1 x2 = some (-1) ∧ (∀ a b c d e f, fX3_movedOO x1 x2 a b c d e f = some (-1)) ∧ fX4_moved x1 x2 mhy myw myh myr = some (-1) := by
  have h4 : ∀ x, fX3_isYear x = 0 → fX4_isYear x = 0 := by
    intro x e
    rcases year_c x with ⟨_, _, _, e', _⟩ | ⟨_, e'⟩
    · rw [e] at e'; exact absurd e' (by decide)
    · exact e'
  unfold fX3_movedNN fX3_movedNO fX3_movedON fX3_movedOO fX4_moved
  by_cases q : fX3_isYear x1 = 0
  · exact ⟨if_pos q, if_pos q, if_pos q, fun _ _ _ _ _ _ => if_pos q, if_pos (h4 _ q)⟩
  · have q2 := h.resolve_left q
    have q3 := h4 _ q2
    refine ⟨by rw [if_neg q, if_pos q2], by rw [if_neg q, if_pos q2], by rw [if_neg q, if_pos q2], fun _ _ _ _ _ _ => by rw [if_neg q, if_pos q2], ?_⟩
    by_cases z : fX4_isYear x1 = 0
    · rw [if_pos z]
    · rw [if_neg z, if_pos q3]
theorem b_movedN {y z : Nat} (hy : y < 4) (hz : z < 4) : fX3_movedNN (nI y) (nI z) = some (-9) ∧ fX3_movedNO (nI y) (nI z) = some (-9) ∧ fX3_movedON (nI y) (nI z) = some (-9) ∧ ((mhy y = 0 ∨ mhy z = 0) → fX4_moved (nI y) (nI z) mhy myw myh myr = some (-9)) := by
  obtain ⟨a3, a4⟩ := year_in hy
  obtain ⟨b3, b4⟩ := year_in hz
  unfold fX3_movedNN fX3_movedNO fX3_movedON fX4_moved
  rw [a3, b3, a4, b4, if_neg (show ¬ (1 : Int32) = 0 by decide), if_neg (show ¬ (1 : Int32) = 0 by decide), if_neg (show ¬ (1 : Int32) = 0 by decide), if_neg (show ¬ (1 : Int32) = 0 by decide), if_pos (ix4 hy), if_pos (ix4 hz), cl4 hy, cl4 hz]
  refine ⟨rfl, rfl, rfl, fun h => ?_⟩
  rw [if_pos (ix4 hy)]
  by_cases q : mhy y = 0
  · rw [if_pos q]
  · rw [if_neg q, if_pos (ix4 hz), if_pos (h.resolve_left q)]
def xrU (gl gl2 : Nat → Int64) : Nat → Int64
  | 0 => 0
  | k + 1 => xrU gl gl2 k ||| (gl k ^^^ gl2 k)
theorem xrU_Bt (gl gl2 : Nat → Int64) (i : Nat) : ∀ n, (Bt (xrU gl gl2 n) i = true ↔ ∃ l, l < n ∧ ¬ (Bt (gl l) i = Bt (gl2 l) i)) := by
  intro n
  induction n with
  | zero => rw [show xrU gl gl2 0 = 0 from rfl, Bt_0]; exact ⟨(fun h => by cases h), (fun ⟨l, h, _⟩ => by omega)⟩
  | succ n ih =>
    rw [show xrU gl gl2 (n + 1) = xrU gl gl2 n ||| (gl n ^^^ gl2 n) from rfl, Bt_or, Bool.or_eq_true, ih, Bt_xor]
    have hx : (Bt (gl n) i ^^ Bt (gl2 n) i) = true ↔ ¬ Bt (gl n) i = Bt (gl2 n) i := by
      cases Bt (gl n) i <;> cases Bt (gl2 n) i <;> decide
    rw [hx]
    constructor
    · rintro (⟨l, h, b⟩ | b)
      · exact ⟨l, by omega, b⟩
      · exact ⟨n, by omega, b⟩
    · rintro ⟨l, h, b⟩
      by_cases e : l = n
      · subst e; exact Or.inr b
      · exact Or.inl ⟨l, by omega, b⟩
theorem unlike_eq {W H : Nat} {c1 c2 : Nat → Int32} {gl gl2 : Nat → Int64} (hb1 : BD W H c1) (hb2 : BD W H c2) (h1 : CR c1 gl) (h2 : CR c2 gl2) : fX0_unlike gl gl2 = some (nI (fb_ct (fun i => decide (¬ c1 i = c2 i)) 64)) := by
  have e : wh (fX0_unlike_5 gl gl2) FU (xrU gl gl2 0, nI 0) = some (xrU gl gl2 6) := by
    refine wh_cnt (fun k => (xrU gl gl2 k, nI k)) 6 FU (fun k hk => ?_) ?_ (by decide)
    · unfold fX0_unlike_5
      dsimp only
      rw [if_neg (n6 hk), if_pos (ix6 hk), if_pos (ix6 hk), nI_1, cl6 hk]; rfl
    · unfold fX0_unlike_5; exact if_pos g6
  unfold fX0_unlike
  rw [show ((0 : Int64), (0 : Int32)) = (xrU gl gl2 0, nI 0) from rfl, e]
  simp only [Option.bind_some]
  rw [bitCount_eq]
  refine congrArg (fun z => some (nI z)) (fb_ct_cong (fun i hi => ?_))
  apply Bool.eq_iff_iff.mpr
  rw [xrU_Bt, decide_eq_true_eq]
  constructor
  · rintro ⟨l, hl, hne⟩ e
    apply hne
    apply Bool.eq_iff_iff.mpr
    rw [h1 l hl i hi, h2 l hl i hi, e]
  · intro hne
    rcases hb1.2.2 i with q | ⟨l, hl, q⟩
    · rcases hb2.2.2 i with p | ⟨l, hl, p⟩
      · exact absurd (q.trans p.symm) hne
      · refine ⟨l, hl, fun z => ?_⟩
        have b2 := (h2 l hl i hi).mpr p
        rw [← z] at b2
        exact hne (((h1 l hl i hi).mp b2).trans p.symm)
    · refine ⟨l, hl, fun z => ?_⟩
      have b1 := (h1 l hl i hi).mpr q
      rw [z] at b1
      exact hne (q.trans ((h2 l hl i hi).mp b1).symm)
theorem moved_loop {W H y z : Nat} (hok : WHok W H) (hy : y < 4) (hz : z < 4) (hw : myw y = nI W) (hh : myh y = nI H) : wh (fX4_moved_72 (nI y) (nI z) myw myh myr) FU (nI 0, nI 0) = some (nI (fb_ct (fun c => decide (¬ myr (64 * y + c) = myr (64 * z + c))) (W * H))) := by
  have hWH := WH_le hok
  refine wh_cnt (f := fX4_moved_72 (nI y) (nI z) myw myh myr) (fun k => (nI (fb_ct (fun c => decide (¬ myr (64 * y + c) = myr (64 * z + c))) k), nI k)) (W * H) FU (fun k hk => ?_) ?_ (by unfold FU; omega)
  · unfold fX4_moved_72
    dsimp only
    rw [if_pos (ix4 hy), if_pos (ix4 hy), cl4 hy, hw, hh, mulWH, if_neg (nI_ge hk (by omega)), yix, yix, if_pos (ix256 (by omega)), if_pos (ix256 (by omega)), cl256 (by omega), cl256 (by omega), nI_1, fb_ct_succ]
    by_cases q : myr (64 * y + k) = myr (64 * z + k)
    · rw [if_pos q, nI_z, if_neg (by simp [q])]
      rfl
    · rw [if_neg q, nI_1, if_pos (by simp [q])]
  · unfold fX4_moved_72
    dsimp only
    rw [if_pos (ix4 hy), if_pos (ix4 hy), cl4 hy, hw, hh, mulWH, if_pos (Int32.le_refl _)]
theorem b_movedO {y z : Nat} (hy : y < 4) (hz : z < 4) (hy1 : mhy y = 1) (hz1 : mhy z = 1) {gw2 gh2 gw3 gh3 : Int32} {gl2 gl3 : Nat → Int64} (hY : YR y gw2 gh2 gl2 myw myh myr) (hZ : YR z gw3 gh3 gl3 myw myh myr) :
    ∃ r, fX3_movedOO (nI y) (nI z) gw2 gh2 gl2 gw3 gh3 gl3 = some r ∧ fX4_moved (nI y) (nI z) mhy myw myh myr = some r := by
  obtain ⟨a3, a4⟩ := year_in hy
  obtain ⟨b3, b4⟩ := year_in hz
  obtain ⟨W, H, c1, rfl, rfl, e1, e2, hR1⟩ := hY
  obtain ⟨W2, H2, c2, rfl, rfl, e3, e4, hR2⟩ := hZ
  have hok : WHok W H := hR1.1.1
  have hok2 : WHok W2 H2 := hR2.1.1
  have k1 := hok.2.1
  have k2 := hok.2.2.2
  have k3 := hok2.2.1
  have k4 := hok2.2.2.2
  have x3 : ∀ r, (if fX0_isAsLargeAs (nI W) (nI H) (nI W2) (nI H2) = 0 then (some (-9 : Int32)) else ((fX0_unlike gl2 gl3).bind fun r55 => (some r55))) = some r → fX3_movedOO (nI y) (nI z) (nI W) (nI H) gl2 (nI W2) (nI H2) gl3 = some r := by
    intro r hr
    unfold fX3_movedOO
    rw [a3, b3, if_neg (show ¬ (1 : Int32) = 0 by decide), if_neg (show ¬ (1 : Int32) = 0 by decide), if_pos (ix4 hy), if_pos (ix4 hz)]
    exact hr
  have x4 : ∀ r, (if nI W = nI W2 then (if nI H = nI H2 then ((wh (fX4_moved_72 (nI y) (nI z) myw myh myr) FU (nI 0, nI 0)).bind fun t72 => some t72) else some (-9 : Int32)) else some (-9)) = some r → fX4_moved (nI y) (nI z) mhy myw myh myr = some r := by
    intro r hr
    unfold fX4_moved
    rw [a4, b4, if_neg (show ¬ (1 : Int32) = 0 by decide), if_neg (show ¬ (1 : Int32) = 0 by decide)]
    simp only [if_pos (ix4 hy), if_pos (ix4 hz), cl4 hy, cl4 hz, hy1, hz1, e1, e2, e3, e4]
    rw [if_neg (show ¬ (1 : Int32) = 0 by decide), if_neg (show ¬ (1 : Int32) = 0 by decide)]
    exact hr
  by_cases qw : nI W = nI W2
  · by_cases qh : nI H = nI H2
    · have eW : W = W2 := (nI_eq (by omega) (by omega)).mp qw
      have eH : H = H2 := (nI_eq (by omega) (by omega)).mp qh
      subst eW; subst eH
      refine ⟨nI (fb_ct (fun i => decide (¬ c1 i = c2 i)) 64), x3 _ ?_, x4 _ ?_⟩
      · unfold fX0_isAsLargeAs
        rw [if_pos rfl, if_pos rfl, if_neg (by decide), unlike_eq hR1.1 hR2.1 hR1.2.1 hR2.2.1]
        rfl
      · rw [if_pos rfl, if_pos rfl, moved_loop hok hy hz e1 e2]
        refine congrArg (fun q => some (nI q)) ?_
        have h1 : fb_ct (fun c => decide (¬ myr (64 * y + c) = myr (64 * z + c))) (W * H) = fb_ct (fun c => (fun i => decide (¬ c1 i = c2 i)) (fi W c)) (W * H) := by
          refine fb_ct_cong (fun c hc => ?_)
          have m1 : myr (64 * y + c) = c1 (fi W c) := hR1.2.2 c hc
          have m2 : myr (64 * z + c) = c2 (fi W c) := hR2.2.2 c hc
          dsimp only
          rw [m1, m2]
        rw [h1, ct_fi hok.1 hok.2.1 (fun i => decide (¬ c1 i = c2 i)) H k2]
        refine fb_ct_cong (fun i _ => ?_)
        by_cases q : onb W H i
        · have q := q
          unfold onb at q
          simp [q.1, q.2]
        · have z1 := hR1.1.2.1 i q
          have z2 := hR2.1.2.1 i q
          simp [z1, z2]
    · refine ⟨-9, x3 _ ?_, x4 _ (by rw [if_pos qw, if_neg qh])⟩
      unfold fX0_isAsLargeAs
      rw [if_pos qw, if_neg qh, if_pos rfl]
  · refine ⟨-9, x3 _ ?_, x4 _ (by rw [if_neg qw])⟩
    unfold fX0_isAsLargeAs
    rw [if_neg qw, if_pos rfl]
-- count
theorem mppl_eq {W H : Nat} {cell : Nat → Int32} (hb : BD W H cell) (hm : MC W H cell ce) : wh (fX4_count_48 (nI W) (nI H) ce) FU (nI 0, nI 0) = some (nI (ppl cell 6)) := by
  refine wh_cnt (f := fX4_count_48 (nI W) (nI H) ce) (fun k => (nI (ppl cell k), nI k)) 6 FU (fun k hk => ?_) ?_ (by decide)
  · unfold fX4_count_48
    dsimp only
    rw [if_neg (n6 hk), msize_l hb hm hk]
    simp only [Option.bind_some]
    rw [nI_1, ppl_s]
    by_cases q : 0 < cnt cell k
    · rw [if_neg (nI_nle q (by have := cnt_le cell k; omega)), if_pos q, nI_1]
    · rw [show cnt cell k = 0 by omega, if_pos (show nI 0 ≤ 0 by decide), nI_z]
      rfl
  · unfold fX4_count_48
    exact if_pos g6
theorem b_count (h : BoR B ask gw gh gl top kep don vc vf ki ow wa mw mh mke mnx mdo mtr ce mk mo mwa mmc mmf) (x : Int32) : ∃ r, fX3_count x gw gh gl kep don = some r ∧ fX4_count x mw mh mke mdo ce = some r := by
  obtain ⟨W, H, cell, kk, ws, rfl, rfl, rfl, rfl, rfl, hR, hk1, hk2, hw1, hw2, ho, T, k, e1, e2, e3, e4, e5, e6, e7, e8, e9⟩ := h
  unfold fX3_count fX4_count
  by_cases q0 : x = 0
  · exact ⟨_, if_pos q0, if_pos q0⟩
  · by_cases q1 : x = 1
    · exact ⟨_, by rw [if_neg q0, if_pos q1], by rw [if_neg q0, if_pos q1]⟩
    · by_cases q2 : x = 2
      · refine ⟨nI (ppl cell 6), ?_, ?_⟩
        · rw [if_neg q0, if_neg q1, if_pos q2, peopled_eq hR.2.1]; rfl
        · rw [if_neg q0, if_neg q1, if_pos q2, show ((0 : Int32), (0 : Int32)) = (nI 0, nI 0) from rfl, mppl_eq hR.1 hR.2.2]; rfl
      · by_cases q3 : x = 3
        · exact ⟨kep, by rw [if_neg q0, if_neg q1, if_neg q2, if_pos q3], by rw [if_neg q0, if_neg q1, if_neg q2, if_pos q3, e5, e6]⟩
        · by_cases q4 : x = 4
          · exact ⟨don, by rw [if_neg q0, if_neg q1, if_neg q2, if_neg q3, if_pos q4], by rw [if_neg q0, if_neg q1, if_neg q2, if_neg q3, if_pos q4, e8]⟩
          · exact ⟨-1, by rw [if_neg q0, if_neg q1, if_neg q2, if_neg q3, if_neg q4], by rw [if_neg q0, if_neg q1, if_neg q2, if_neg q3, if_neg q4]⟩
end YEARS

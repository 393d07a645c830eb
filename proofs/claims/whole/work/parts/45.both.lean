/-! every call, on both sides: the class's board and the model's stay alike -/
def BoR (B : Nat) (ask : Int64) (gw gh : Int32) (gl : Nat → Int64) (top kep don : Int32) (vc vf ki ow wa : Nat → Int32) (mw mh mke mnx mdo : Int32) (mtr : Int64) (ce mk mo mwa mmc mmf : Nat → Int32) : Prop :=
  ∃ W H cell kk ws, gw = nI W ∧ gh = nI H ∧ mw = nI W ∧ mh = nI H ∧ ask = mtr ∧ RB W H cell gl ce ∧ KK ki kk ∧ KK mk kk ∧ WW wa ws ∧ WW mwa ws ∧ OWN W H ow mo ∧ RMV W H B top kep don vc vf mke mnx mdo mmc mmf
theorem land_c (x : Int32) : (∃ l, l < 6 ∧ x = nI l ∧ fX3_isLand x = 1 ∧ fX4_isLand x = 1) ∨ ((∀ l, l < 6 → ¬ x = nI l) ∧ fX3_isLand x = 0 ∧ fX4_isLand x = 0) := by
  rcases isLand_c x with ⟨l, hl, e, h1⟩ | ⟨h0, h1⟩
  · refine Or.inl ⟨l, hl, e, h1, ?_⟩
    subst e
    show fX4_in (nI l) 0 (nI 6 - 1) = 1
    rw [in_nat (by omega) (by omega) (by omega), if_pos hl]
  · refine Or.inr ⟨h0, h1, ?_⟩
    by_cases q : x < 0
    · exact in_neg q
    · obtain ⟨a, ha, rfl⟩ := nI_of q
      show fX4_in (nI a) 0 (nI 6 - 1) = 0
      rw [in_nat ha (by omega) (by omega), if_neg (fun z => h0 a z rfl)]
theorem on_c {W H : Nat} (h : WHok W H) (x y : Int32) : (∃ i, onb W H i ∧ fX0_has x y (nI W) (nI H) = 1 ∧ fX3_cellAt x y = nI i ∧ fX4_cellAt x y (nI W) (nI H) = nI (ci8 W i) ∧ fX4_isOn x y (nI W) (nI H) = 1) ∨ (fX0_has x y (nI W) (nI H) = 0 ∧ fX4_cellAt x y (nI W) (nI H) = -1 ∧ fX4_isOn x y (nI W) (nI H) = 0) := by
  have h' := h
  obtain ⟨h1, h2, h3, h4⟩ := h'
  have hon : ∀ q, fX4_isOn x y (nI W) (nI H) = q → q = 0 ∨ q = 1 := by
    intro q e
    subst e
    unfold fX4_isOn
    split
    · exact Or.inl rfl
    · split
      · exact Or.inl rfl
      · exact Or.inr rfl
  rcases cellAt_c h x y with ⟨a, b, ha, hb, rfl, rfl, e1, e2⟩ | ⟨h0, e1⟩
  · refine Or.inl ⟨a + 8 * b, by unfold onb; omega, ?_, ?_, ?_, ?_⟩
    · unfold fX0_has
      rw [if_neg (nI_pos (by omega)), if_neg (nI_ge ha (by omega)), if_neg (nI_pos (by omega)), if_neg (nI_ge hb (by omega))]
    · unfold fX3_cellAt
      rw [show (8 : Int32) = nI 8 from rfl, pk_mul, nI_add]
    · rw [e1]
      congr 1
      unfold ci8
      rw [show (a + 8 * b) % 8 = a by omega, show (a + 8 * b) / 8 = b by omega, Nat.mul_comm, Nat.add_comm]
    · rcases hon _ rfl with q | q
      · unfold fX4_cellAt at e1
        rw [if_pos q] at e1
        exact absurd (e1 ▸ (by decide : (-1 : Int32) < 0)) (nI_pos (by have := WH_le h; omega))
      · exact q
  · refine Or.inr ⟨?_, e1, ?_⟩
    · unfold fX0_has
      by_cases hx : x < 0
      · rw [if_pos hx]
      · rw [if_neg hx]
        obtain ⟨a, ha, rfl⟩ := nI_of hx
        by_cases q : nI W ≤ nI a
        · rw [if_pos q]
        · rw [if_neg q]
          by_cases hy : y < 0
          · rw [if_pos hy]
          · rw [if_neg hy]
            obtain ⟨b, hb, rfl⟩ := nI_of hy
            by_cases r : nI H ≤ nI b
            · rw [if_pos r]
            · exact absurd ⟨a, b, Nat.lt_of_not_le (fun z => q (nI_le z ha)), Nat.lt_of_not_le (fun z => r (nI_le z hb)), rfl, rfl⟩ h0
    · rcases hon _ rfl with q | q
      · exact q
      · exfalso
        unfold fX4_isOn at q
        by_cases hx : x < 0
        · rw [in_neg hx, if_pos rfl] at q; exact absurd q (by decide)
        · obtain ⟨a, ha, rfl⟩ := nI_of hx
          rw [in_nat ha h1 (by omega)] at q
          by_cases qa : a < W
          · rw [if_pos qa, if_neg (by decide)] at q
            by_cases hy : y < 0
            · rw [in_neg hy] at q; exact absurd q (by decide)
            · obtain ⟨b, hb, rfl⟩ := nI_of hy
              rw [in_nat hb h3 (by omega)] at q
              by_cases qb : b < H
              · exact h0 ⟨a, b, qa, qb, rfl, rfl⟩
              · rw [if_neg qb] at q; exact absurd q (by decide)
          · rw [if_neg qa, if_pos rfl] at q; exact absurd q (by decide)
-- a new board
theorem upto_eq {α : Type} (v : α) {n : Nat} (f : Nat → α) {k : Nat} : (fun j => if j = k then v else if j < k then v else f j) = fun j => if j < k + 1 then v else f j := by
  funext j
  by_cases a : j = k
  · subst a; simp
  · by_cases b : j < k
    · rw [if_neg a, if_pos b, if_pos (by omega)]
    · rw [if_neg a, if_neg b, if_neg (by omega)]
theorem clear_gl (gl : Nat → Int64) : wh fX0_clear_12 FU ((0 : Int32), gl) = some (fun j => if j < 6 then 0 else gl j) := by
  have e := wh_cnt (f := fX0_clear_12) (fun k => (nI k, fun j => if j < k then 0 else gl j)) 6 FU (t := fun j => if j < 6 then 0 else gl j) (fun k hk => by
    unfold fX0_clear_12
    dsimp only
    rw [if_neg (n6 hk), if_pos (ix6 hk), cl6 hk, nI_1]
    refine congrArg (fun z => some (Sum.inl (nI (k + 1), z))) ?_
    exact upto_eq (n := 0) (0 : Int64) gl) (by unfold fX0_clear_12; exact if_pos g6) (by decide)
  have e0 : (fun j => if j < 0 then (0 : Int64) else gl j) = gl := funext fun j => if_neg (by omega)
  rw [e0] at e
  exact e
theorem kinds_eq (ki ow : Nat → Int32) : fX3_forgetKinds ki ow = some ((fun j => if j < 6 then 0 else ki j), (fun j => if j < 6 then -9 else ow j)) := by
  have e := wh_cnt (f := fX3_forgetKinds_2) (fun k => (nI k, (fun j => if j < k then 0 else ki j), (fun j => if j < k then -9 else ow j))) 6 FU (t := ((fun j => if j < 6 then 0 else ki j), (fun j => if j < 6 then -9 else ow j))) (fun k hk => by
    unfold fX3_forgetKinds_2
    dsimp only
    rw [if_neg (n6 hk), if_pos (ix6 hk), if_pos (ix6 hk), cl6 hk, nI_1]
    exact congrArg (fun z => some (Sum.inl (nI (k + 1), z))) (Prod.ext (upto_eq (n := 0) (0 : Int32) ki) (upto_eq (n := 0) (-9 : Int32) ow))) (by unfold fX3_forgetKinds_2; exact if_pos g6) (by decide)
  have e0 : (fun j => if j < 0 then (0 : Int32) else ki j) = ki := funext fun j => if_neg (by omega)
  have e1 : (fun j => if j < 0 then (-9 : Int32) else ow j) = ow := funext fun j => if_neg (by omega)
  rw [e0, e1] at e
  unfold fX3_forgetKinds
  rw [show (0 : Int32) = nI 0 from rfl, e]
  rfl
theorem plain_eq (mke : Int32) (mk mo : Nat → Int32) : fX4_plain mke mk mo = some (0, (fun j => if j < 6 then 0 else mk j), (fun j => if j < 6 then -1 else mo j)) := by
  have e := wh_cnt (f := fX4_plain_2) (fun k => (nI k, (fun j => if j < k then 0 else mk j), (fun j => if j < k then -1 else mo j))) 6 FU (t := ((fun j => if j < 6 then 0 else mk j), (fun j => if j < 6 then -1 else mo j))) (fun k hk => by
    unfold fX4_plain_2
    dsimp only
    rw [if_neg (n6 hk), if_pos (ix6 hk), if_pos (ix6 hk), cl6 hk, nI_1]
    exact congrArg (fun z => some (Sum.inl (nI (k + 1), z))) (Prod.ext (upto_eq (n := 0) (0 : Int32) mk) (upto_eq (n := 0) (-1 : Int32) mo))) (by unfold fX4_plain_2; exact if_pos g6) (by decide)
  have e0 : (fun j => if j < 0 then (0 : Int32) else mk j) = mk := funext fun j => if_neg (by omega)
  have e1 : (fun j => if j < 0 then (-1 : Int32) else mo j) = mo := funext fun j => if_neg (by omega)
  rw [e0, e1] at e
  unfold fX4_plain
  rw [show ((0 : Int32), mk, mo) = (nI 0, mk, mo) from rfl, e]
  rfl
theorem clears_eq (mke : Int32) (ce mk mo : Nat → Int32) : fX4_clears mke ce mk mo = some (0, (fun j => if j < 64 then -4 else ce j), (fun j => if j < 6 then 0 else mk j), (fun j => if j < 6 then -1 else mo j)) := by
  have e := wh_cnt (f := fX4_clears_2) (fun k => (nI k, fun j => if j < k then -4 else ce j)) 64 FU (t := fun j => if j < 64 then -4 else ce j) (fun k hk => by
    unfold fX4_clears_2
    dsimp only
    rw [if_neg (n64 hk), if_pos (ix64 hk), cl64 hk, nI_1]
    exact congrArg (fun z => some (Sum.inl (nI (k + 1), z))) (upto_eq (n := 0) (-4 : Int32) ce)) (by unfold fX4_clears_2; exact if_pos g64) (by decide)
  have e0 : (fun j => if j < 0 then (-4 : Int32) else ce j) = ce := funext fun j => if_neg (by omega)
  rw [e0] at e
  unfold fX4_clears
  rw [show ((0 : Int32), ce) = (nI 0, ce) from rfl, e]
  simp only [Option.bind_some, plain_eq]
theorem clear_eq (W H : Nat) (gw gh : Int32) (gl : Nat → Int64) : fX0_clear (nI W) (nI H) gw gh gl = some (nI W, nI H, fun j => if j < 6 then 0 else gl j) := by
  unfold fX0_clear
  rw [clear_gl]
  simp only [Option.bind_some]
theorem sea_CR (gl : Nat → Int64) : CR (fun _ => -4) (fun j => if j < 6 then 0 else gl j) := by
  intro l hl i hi
  dsimp only
  rw [if_pos hl, Bt_0]
  exact ⟨(fun z => by cases z), fun z => absurd z.symm (sw_nI (by omega))⟩
theorem sea_RB {W H : Nat} (h : WHok W H) (gl : Nat → Int64) (ce : Nat → Int32) : RB W H (fun _ => -4) (fun j => if j < 6 then 0 else gl j) (fun j => if j < 64 then -4 else ce j) :=
  ⟨⟨h, fun _ _ => rfl, fun _ => Or.inl rfl⟩, sea_CR gl, fun c hc => if_pos (by have := WH_le h; omega)⟩
theorem KK0 (ki : Nat → Int32) : KK (fun j => if j < 6 then 0 else ki j) (fun _ => 0) := fun l hl => ⟨if_pos hl, Nat.zero_le _⟩
theorem OWN0 (W H : Nat) (ow mo : Nat → Int32) : OWN W H (fun j => if j < 6 then -9 else ow j) (fun j => if j < 6 then -1 else mo j) := fun l hl => Or.inl ⟨if_pos hl, if_pos hl⟩
theorem RMV.forget {W H W' H' B : Nat} {top kep don mke mnx mdo : Int32} {vc vf mmc mmf : Nat → Int32} (hM : RMV W H B top kep don vc vf mke mnx mdo mmc mmf) : RMV W' H' B top (fX1_forget kep) don vc vf 0 mnx mdo mmc mmf := by
  obtain ⟨T, k, e1, e2, e3, e4, e5, e6, e7, e8, e9⟩ := hM
  exact ⟨T, 0, e1, by omega, by omega, e4, rfl, rfl, e7, e8, fun j hj => by omega⟩

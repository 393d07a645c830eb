/-! the class: who may go, what is missing, a move -/
def BD (W H : Nat) (cell : Nat → Int32) : Prop := (1 ≤ W ∧ W ≤ 8 ∧ 1 ≤ H ∧ H ≤ 8) ∧ (∀ i, ¬ onb W H i → cell i = -4) ∧ ∀ i, okv (cell i)
theorem onb_lt {W H i : Nat} (hH : H ≤ 8) (h : onb W H i) : i < 64 := by unfold onb at h; omega
theorem BD.lt {W H : Nat} {cell : Nat → Int32} (hb : BD W H cell) {i l : Nat} (hl : l < 6) (h : cell i = nI l) : i < 64 := by
  refine Classical.byContradiction (fun q => ?_)
  have := hb.2.1 i (fun z => q (onb_lt hb.1.2.2.2 z))
  rw [h] at this
  exact sw_nI (by omega) this
theorem BD.on {W H : Nat} {cell : Nat → Int32} (hb : BD W H cell) {i l : Nat} (hl : l < 6) (h : cell i = nI l) : onb W H i := by
  refine Classical.byContradiction (fun q => ?_)
  have := hb.2.1 i q
  rw [h] at this
  exact sw_nI (by omega) this
theorem CR.all {W H : Nat} {cell : Nat → Int32} {gl : Nat → Int64} (hb : BD W H cell) (hc : CR cell gl) {l : Nat} (hl : l < 6) (i : Nat) : Bt (gl l) i = true ↔ cell i = nI l := by
  by_cases hi : i < 64
  · exact hc l hl i hi
  · rw [Bt_big (by omega)]
    exact ⟨(fun h => by cases h), (fun h => absurd (hb.lt hl h) hi)⟩
theorem CR.fn {W H : Nat} {cell : Nat → Int32} {gl : Nat → Int64} (hb : BD W H cell) (hc : CR cell gl) {l : Nat} (hl : l < 6) : (fun i => Bt (gl l) i = true) = (fun i => cell i = nI l) := funext fun i => propext (CR.all hb hc hl i)
theorem CR.less {W H : Nat} {cell : Nat → Int32} {gl : Nat → Int64} (hb : BD W H cell) (hc : CR cell gl) {l i : Nat} (hl : l < 6) (hi : i < 64) : (fun j => Bt (gl l &&& (fX3_bit (nI i) ^^^ (-1))) j = true) = (fun j => cell j = nI l ∧ j ≠ i) := by
  funext j
  refine propext ?_
  by_cases hj : j < 64
  · rw [Bt_and, Bt_not _ hj, Bt_bit i hi hj, Bool.and_eq_true, CR.all hb hc hl j]
    refine and_congr_right (fun _ => ?_)
    by_cases e : j = i <;> simp [e]
  · rw [Bt_big (by omega)]
    exact ⟨(fun h => by cases h), (fun h => absurd (hb.lt hl h.1) hj)⟩
theorem BD.bs {W H : Nat} {cell : Nat → Int32} (hb : BD W H cell) : BS W H cell := ⟨hb.1, hb.2.1⟩
theorem BD.upd {W H : Nat} {cell : Nat → Int32} (hb : BD W H cell) {i : Nat} (hi : onb W H i) {v : Int32} (hv : okv v) : BD W H (fun j => if j = i then v else cell j) := by
  refine ⟨hb.1, fun j hj => ?_, fun j => ?_⟩
  · show (if j = i then v else cell j) = -4
    rw [if_neg (fun (e : j = i) => hj (by rw [e]; exact hi))]
    exact hb.2.1 j hj
  · show okv (if j = i then v else cell j)
    by_cases e : j = i
    · rw [if_pos e]; exact hv
    · rw [if_neg e]; exact hb.2.2 j
theorem okv_l {l : Nat} (h : l < 6) : okv (nI l) := Or.inr ⟨l, h, rfl⟩
def LV (W H : Nat) (cell : Nat → Int32) (kk : Nat) (own : Prop) (l i : Nat) : Prop := Whole (fun j => cell j = nI l ∧ j ≠ i) ∧ (kk = 0 ∨ ¬ own) ∧ (kk < 2 ∨ SeaT W H cell (fun j => cell j = nI l ∧ j ≠ i))
theorem letsGo_eq {W H : Nat} {cell : Nat → Int32} {gl : Nat → Int64} {ki ow : Nat → Int32} (hb : BD W H cell) (hc : CR cell gl) {l i kk : Nat} (hl : l < 6) (hi : i < 64) (hk : ki l = nI kk) (hk2 : kk ≤ 2) : fX3_letsGo (nI l) (nI i) gl ki ow = some (tf (LV W H cell kk (nI i = ow l) l i)) := by
  have e1 := isWhole_eq (gl l &&& (fX3_bit (nI i) ^^^ (-1)))
  rw [CR.less hb hc hl hi] at e1
  have e2 := isAtSea_eq hc hb.2.2 hb.bs (gl l &&& (fX3_bit (nI i) ^^^ (-1))) (fun j hj z => hb.on hl ((hc l hl j hj).mp (by rw [Bt_and, Bool.and_eq_true] at z; exact z.1)))
  rw [CR.less hb hc hl hi] at e2
  unfold fX3_letsGo
  rw [isLand_in hl, if_neg (by decide), cellsOf_in hl]
  simp only [Option.bind_some, e1, e2, ix6 hl, cl6 hl, hk, if_true]
  have k2 : (nI kk = (2 : Int32)) = (kk = 2) := eqP (b := 2) (by omega) (by omega)
  have k1 : (nI kk = (1 : Int32)) = (kk = 1) := eqP (b := 1) (by omega) (by omega)
  simp only [k2, k1]
  unfold LV
  rcases tf_c (Whole (fun j => cell j = nI l ∧ j ≠ i)) with ⟨hw, ew⟩ | ⟨hw, ew⟩
  · rw [ew]
    rw [if_neg (by decide : ¬ (1 : Int32) = 0), if_pos (show zb 1 = true by decide)]
    rcases tf_c (SeaT W H cell (fun j => cell j = nI l ∧ j ≠ i)) with ⟨hs, es⟩ | ⟨hs, es⟩
    · rw [es, if_neg (by decide : ¬ (1 : Int32) = 0)]
      by_cases ho : nI i = ow l
      · rw [if_pos ho]
        rcases (show kk = 0 ∨ kk = 1 ∨ kk = 2 by omega) with rfl | rfl | rfl
        · rw [tf_t ⟨hw, Or.inl rfl, Or.inl (by omega)⟩]; rfl
        · rw [tf_f (fun z => z.2.1.elim (by omega) (fun y => y ho))]; rfl
        · rw [tf_f (fun z => z.2.1.elim (by omega) (fun y => y ho))]; rfl
      · rw [if_neg ho, tf_t ⟨hw, Or.inr ho, Or.inr hs⟩]
        rcases (show kk = 0 ∨ kk = 1 ∨ kk = 2 by omega) with rfl | rfl | rfl <;> rfl
    · rw [es, if_pos (rfl : (0 : Int32) = 0)]
      by_cases ho : nI i = ow l
      · rw [if_pos ho]
        rcases (show kk = 0 ∨ kk = 1 ∨ kk = 2 by omega) with rfl | rfl | rfl
        · rw [tf_t ⟨hw, Or.inl rfl, Or.inl (by omega)⟩]; rfl
        · rw [tf_f (fun z => z.2.1.elim (by omega) (fun y => y ho))]; rfl
        · rw [tf_f (fun z => z.2.1.elim (by omega) (fun y => y ho))]; rfl
      · rw [if_neg ho]
        rcases (show kk = 0 ∨ kk = 1 ∨ kk = 2 by omega) with rfl | rfl | rfl
        · rw [tf_t ⟨hw, Or.inl rfl, Or.inl (by omega)⟩]; rfl
        · rw [tf_t ⟨hw, Or.inr ho, Or.inl (by omega)⟩]; rfl
        · rw [tf_f (fun z => z.2.2.elim (by omega) hs)]; rfl
  · rw [ew, if_pos (rfl : (0 : Int32) = 0), tf_f (fun z => hw z.1), if_pos (show zb 0 = true by decide)]
    rcases (show kk = 0 ∨ kk = 1 ∨ kk = 2 by omega) with rfl | rfl | rfl <;> rfl
/-- a cell may go to a land -/
def MG (W H : Nat) (cell : Nat → Int32) (kk : Nat → Nat) (own : Nat → Nat → Prop) (i t : Nat) : Prop := ∃ l, l < 6 ∧ cell i = nI l ∧ l ≠ t ∧ (∃ j, j < 64 ∧ nb i j ∧ cell j = nI t) ∧ LV W H cell (kk l) (own l i) l i ∧ TS W H cell (fun j => if j = i then nI t else cell j)
def KK (ki : Nat → Int32) (kk : Nat → Nat) : Prop := ∀ l, l < 6 → ki l = nI (kk l) ∧ kk l ≤ 2
theorem canGo_eq {W H : Nat} {cell : Nat → Int32} {gl : Nat → Int64} {ki ow : Nat → Int32} {kk : Nat → Nat} (hb : BD W H cell) (hc : CR cell gl) (hkk : KK ki kk) {i t : Nat} (hi : i < 64) (ht : t < 6) : fX3_canGo (nI i) (nI t) gl ki ow = some (tf (MG W H cell kk (fun l i => nI i = ow l) i t), gl) := by
  unfold fX3_canGo
  rw [landOf_eq hc hi (hb.2.2 i)]
  simp only [Option.bind_some]
  rcases hb.2.2 i with e | ⟨l, hl, e⟩
  · rw [if_pos e, tf_f]
    rintro ⟨l, hl, e2, -⟩
    rw [e] at e2
    exact sw_nI (by omega) e2.symm
  · rw [e, if_neg (sw_nI (by omega))]
    have one : ∀ l', cell i = nI l' → l' < 6 → l' = l := by
      intro l' e' h'
      rw [e, eqP (by omega) (by omega)] at e'
      exact e'.symm
    by_cases hlt : l = t
    · rw [if_pos (by rw [hlt]), tf_f]
      rintro ⟨l', hl', e2, h3, -⟩
      exact h3 ((one l' e2 hl').trans hlt)
    · rw [if_neg (fun z => hlt ((eqP (by omega) (by omega)).mp z)), cellsOf_in ht]
      simp only [Option.bind_some, cmpP]
      have hnb : ¬ (fX3_around (fX3_bit (nI i)) &&& gl t = 0) ↔ ∃ j, j < 64 ∧ nb i j ∧ cell j = nI t := by
        rw [around_and]
        constructor
        · rintro ⟨u, j, hu, hj, n, b1, b2⟩
          rw [Bt_bit i hi hu, decide_eq_true_iff] at b1
          subst b1
          exact ⟨j, hj, n, (hc t ht j hj).mp b2⟩
        · rintro ⟨j, hj, n, b2⟩
          exact ⟨i, j, hi, hj, n, by rw [Bt_bit i hi hi]; simp, (hc t ht j hj).mpr b2⟩
      by_cases h1 : fX3_around (fX3_bit (nI i)) &&& gl t = 0
      · rw [if_pos h1, tf_f]
        rintro ⟨l', hl', e2, h3, h4, -⟩
        exact (hnb.mpr h4) h1
      · rw [if_neg h1, letsGo_eq hb hc hl hi (hkk l hl).1 (hkk l hl).2]
        simp only [Option.bind_some]
        rcases tf_c (LV W H cell (kk l) (nI i = ow l) l i) with ⟨hL, eL⟩ | ⟨hL, eL⟩
        · rw [eL, if_neg (by decide : ¬ (1 : Int32) = 0)]
          obtain ⟨t1, et1, bt1⟩ := touching_eq hc hb.2.2 hb.bs
          have hon := hb.on hl e
          have hb2 := hb.upd hon (okv_l ht)
          have hc2 := putf_CR hc hi (nI t)
          obtain ⟨t2, et2, bt2⟩ := touching_eq hc2 hb2.2.2 hb2.bs
          have hback := putf_back hc hi (nI t)
          rw [e] at hback
          rw [et1, put_eq]
          simp only [Option.bind_some, et2, put_eq, hback, cmpP]
          have hts : t1 = t2 ↔ TS W H cell (fun j => if j = i then nI t else cell j) := by
            rw [← TB_same]
            constructor
            · intro h b hb'
              rw [← bt1 b hb', ← bt2 b hb', h]
            · intro h
              refine Bt_ext (fun b hb' => Bool.eq_iff_iff.mpr ?_)
              rw [bt1 b hb', bt2 b hb', h b hb']
          by_cases h2 : t1 = t2
          · rw [if_pos h2, tf_t ⟨l, hl, e, hlt, hnb.mp h1, hL, hts.mp h2⟩]
          · rw [if_neg h2, tf_f]
            rintro ⟨l', hl', e2, h3, h4, h5, h6⟩
            exact h2 (hts.mpr h6)
        · rw [eL, if_pos (rfl : (0 : Int32) = 0), tf_f]
          rintro ⟨l', hl', e2, h3, h4, h5, h6⟩
          have := one l' e2 hl'
          subst this
          exact hL h5

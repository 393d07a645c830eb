/-! the model's cells: cell c of it is cell fi W c of the board of eight by eight -/
def fi (W c : Nat) : Nat := c % W + 8 * (c / W)
def ci8 (W i : Nat) : Nat := i % 8 + W * (i / 8)
def WHok (W H : Nat) : Prop := 1 ≤ W ∧ W ≤ 8 ∧ 1 ≤ H ∧ H ≤ 8
theorem W8 {W : Nat} (h1 : 1 ≤ W) (h2 : W ≤ 8) : W = 1 ∨ W = 2 ∨ W = 3 ∨ W = 4 ∨ W = 5 ∨ W = 6 ∨ W = 7 ∨ W = 8 := by omega
theorem WH_le {W H : Nat} (h : WHok W H) : W * H ≤ 64 := Nat.le_trans (Nat.mul_le_mul h.2.1 h.2.2.2) (by decide)
theorem fi_on {W H c : Nat} (h : WHok W H) (hc : c < W * H) : onb W H (fi W c) := by
  obtain ⟨h1, h2, h3, h4⟩ := h
  unfold onb fi
  rcases W8 h1 h2 with rfl | rfl | rfl | rfl | rfl | rfl | rfl | rfl <;> omega
theorem fi_lt {W H c : Nat} (h : WHok W H) (hc : c < W * H) : fi W c < 64 := onb_lt h.2.2.2 (fi_on h hc)
theorem ci_lt {W H i : Nat} (h : WHok W H) (hi : onb W H i) : ci8 W i < W * H := by
  obtain ⟨h1, h2, h3, h4⟩ := h
  unfold onb at hi
  unfold ci8
  rcases W8 h1 h2 with rfl | rfl | rfl | rfl | rfl | rfl | rfl | rfl <;> omega
theorem fi_ci {W H i : Nat} (h : WHok W H) (hi : onb W H i) : fi W (ci8 W i) = i := by
  obtain ⟨h1, h2, h3, h4⟩ := h
  unfold onb at hi
  unfold ci8 fi
  rcases W8 h1 h2 with rfl | rfl | rfl | rfl | rfl | rfl | rfl | rfl <;> omega
theorem ci_fi {W H c : Nat} (h : WHok W H) (hc : c < W * H) : ci8 W (fi W c) = c := by
  obtain ⟨h1, h2, h3, h4⟩ := h
  unfold ci8 fi
  rcases W8 h1 h2 with rfl | rfl | rfl | rfl | rfl | rfl | rfl | rfl <;> omega
theorem fi_inj {W H c c' : Nat} (h : WHok W H) (hc : c < W * H) (hc' : c' < W * H) (e : fi W c = fi W c') : c = c' := by
  rw [← ci_fi h hc, ← ci_fi h hc', e]
theorem fi_mono {W H c c' : Nat} (h : WHok W H) (hc' : c' < W * H) (e : c < c') : fi W c < fi W c' := by
  obtain ⟨h1, h2, h3, h4⟩ := h
  unfold fi
  rcases W8 h1 h2 with rfl | rfl | rfl | rfl | rfl | rfl | rfl | rfl <;> omega
theorem ci_mono {W H i j : Nat} (h : WHok W H) (hi : onb W H i) (hj : onb W H j) (e : i < j) : ci8 W i < ci8 W j := by
  obtain ⟨h1, h2, h3, h4⟩ := h
  unfold onb at hi hj
  unfold ci8
  rcases W8 h1 h2 with rfl | rfl | rfl | rfl | rfl | rfl | rfl | rfl <;> omega
/-- the neighbour of a cell on one of four ways: right, left, below, above -/
def bs (W H c way : Nat) : Option Nat := if way = 0 then (if c % W + 1 < W then some (c + 1) else none) else if way = 1 then (if 0 < c % W then some (c - 1) else none) else if way = 2 then (if c / W + 1 < H then some (c + W) else none) else (if 0 < c / W then some (c - W) else none)
def oI (r : Option Nat) : Int32 := match r with
  | some c => nI c
  | none => -1
theorem bs_lt {W H c way c' : Nat} (h : WHok W H) (hc : c < W * H) (e : bs W H c way = some c') : c' < W * H ∧ nb (fi W c) (fi W c') := by
  obtain ⟨h1, h2, h3, h4⟩ := h
  unfold bs at e
  unfold nb fi
  by_cases w0 : way = 0
  · rw [if_pos w0] at e
    split at e
    · cases e
      rcases W8 h1 h2 with rfl | rfl | rfl | rfl | rfl | rfl | rfl | rfl <;> omega
    · cases e
  · rw [if_neg w0] at e
    by_cases w1 : way = 1
    · rw [if_pos w1] at e
      split at e
      · cases e
        rcases W8 h1 h2 with rfl | rfl | rfl | rfl | rfl | rfl | rfl | rfl <;> omega
      · cases e
    · rw [if_neg w1] at e
      by_cases w2 : way = 2
      · rw [if_pos w2] at e
        split at e
        · cases e
          rcases W8 h1 h2 with rfl | rfl | rfl | rfl | rfl | rfl | rfl | rfl <;> omega
        · cases e
      · rw [if_neg w2] at e
        split at e
        · cases e
          rcases W8 h1 h2 with rfl | rfl | rfl | rfl | rfl | rfl | rfl | rfl <;> omega
        · cases e
theorem nb_bs {W H c c' : Nat} (h : WHok W H) (hc : c < W * H) (hc' : c' < W * H) (n : nb (fi W c) (fi W c')) : ∃ way, way < 4 ∧ bs W H c way = some c' := by
  obtain ⟨h1, h2, h3, h4⟩ := h
  unfold nb fi at n
  unfold bs
  rcases n with n | n | n | n
  · refine ⟨0, by omega, ?_⟩
    rw [if_pos rfl, if_pos (by rcases W8 h1 h2 with rfl | rfl | rfl | rfl | rfl | rfl | rfl | rfl <;> omega)]
    exact congrArg some (by rcases W8 h1 h2 with rfl | rfl | rfl | rfl | rfl | rfl | rfl | rfl <;> omega)
  · refine ⟨1, by omega, ?_⟩
    rw [if_neg (by decide), if_pos rfl, if_pos (by rcases W8 h1 h2 with rfl | rfl | rfl | rfl | rfl | rfl | rfl | rfl <;> omega)]
    exact congrArg some (by rcases W8 h1 h2 with rfl | rfl | rfl | rfl | rfl | rfl | rfl | rfl <;> omega)
  · refine ⟨2, by omega, ?_⟩
    rw [if_neg (by decide), if_neg (by decide), if_pos rfl, if_pos (by rcases W8 h1 h2 with rfl | rfl | rfl | rfl | rfl | rfl | rfl | rfl <;> omega)]
    exact congrArg some (by rcases W8 h1 h2 with rfl | rfl | rfl | rfl | rfl | rfl | rfl | rfl <;> omega)
  · refine ⟨3, by omega, ?_⟩
    rw [if_neg (by decide), if_neg (by decide), if_neg (by decide), if_pos (by rcases W8 h1 h2 with rfl | rfl | rfl | rfl | rfl | rfl | rfl | rfl <;> omega)]
    exact congrArg some (by rcases W8 h1 h2 with rfl | rfl | rfl | rfl | rfl | rfl | rfl | rfl <;> omega)
theorem edg_bs {W H c : Nat} (h : WHok W H) (hc : c < W * H) : edg W H (fi W c) ↔ ∃ way, way < 4 ∧ bs W H c way = none := by
  have ho := fi_on h hc
  obtain ⟨h1, h2, h3, h4⟩ := h
  unfold edg
  have e1 : fi W c % 8 = c % W := by unfold fi; rcases W8 h1 h2 with rfl | rfl | rfl | rfl | rfl | rfl | rfl | rfl <;> omega
  have e2 : fi W c / 8 = c / W := by unfold fi; rcases W8 h1 h2 with rfl | rfl | rfl | rfl | rfl | rfl | rfl | rfl <;> omega
  have e3 : c % W < W := Nat.mod_lt _ h1
  have e4 : c / W < H := by unfold onb at ho; omega
  rw [e1, e2]
  constructor
  · rintro ⟨-, h | h | h | h⟩
    · exact ⟨1, by omega, by unfold bs; rw [if_neg (by decide), if_pos rfl, if_neg (by omega)]⟩
    · exact ⟨0, by omega, by unfold bs; rw [if_pos rfl, if_neg (by omega)]⟩
    · exact ⟨3, by omega, by unfold bs; rw [if_neg (by decide), if_neg (by decide), if_neg (by decide), if_neg (by omega)]⟩
    · exact ⟨2, by omega, by unfold bs; rw [if_neg (by decide), if_neg (by decide), if_pos rfl, if_neg (by omega)]⟩
  · rintro ⟨way, hw, e⟩
    refine ⟨ho, ?_⟩
    unfold bs at e
    rcases (show way = 0 ∨ way = 1 ∨ way = 2 ∨ way = 3 by omega) with rfl | rfl | rfl | rfl
    · rw [if_pos rfl] at e; split at e
      · cases e
      · omega
    · rw [if_neg (by decide), if_pos rfl] at e; split at e
      · cases e
      · omega
    · rw [if_neg (by decide), if_neg (by decide), if_pos rfl] at e; split at e
      · cases e
      · omega
    · rw [if_neg (by decide), if_neg (by decide), if_neg (by decide)] at e; split at e
      · cases e
      · omega
theorem in_nat {a n : Nat} (ha : a < 2 ^ 31) (hn : 1 ≤ n) (hn2 : n < 2 ^ 31) : fX4_in (nI a) 0 (nI n - 1) = if a < n then 1 else 0 := by
  unfold fX4_in
  rw [if_neg (nI_pos ha), show nI n - 1 = nI (n - 1) from pk_sub (b := 1) hn]
  by_cases h : a < n
  · rw [if_pos h, if_neg (fun z => by have := (nI_ltI (by omega) ha).mp z; omega)]
  · rw [if_neg h, if_pos ((nI_ltI (by omega) ha).mpr (by omega))]
theorem in_neg {x y : Int32} (h : x < 0) : fX4_in x 0 y = 0 := by unfold fX4_in; rw [if_pos h]
theorem cellAt_nat {W H a b : Nat} (h : WHok W H) (ha : a < 2 ^ 31) (hb : b < 2 ^ 31) : fX4_cellAt (nI a) (nI b) (nI W) (nI H) = if a < W ∧ b < H then nI (b * W + a) else -1 := by
  obtain ⟨h1, h2, h3, h4⟩ := h
  unfold fX4_cellAt fX4_isOn
  rw [in_nat ha h1 (by omega), in_nat hb h3 (by omega)]
  by_cases q : a < W
  · by_cases r : b < H
    · simp only [q, r, if_true, and_self]
      rw [pk_mul, nI_add]
      rfl
    · simp [q, r]
  · simp [q]
theorem cellAt_negx {x y w h : Int32} (hx : x < 0) : fX4_cellAt x y w h = -1 := by
  unfold fX4_cellAt fX4_isOn
  rw [in_neg hx]; rfl
theorem cellAt_negy {x y w h : Int32} (hy : y < 0) : fX4_cellAt x y w h = -1 := by
  unfold fX4_cellAt fX4_isOn
  rw [in_neg hy]
  by_cases q : fX4_in x 0 (w - 1) = 0
  · rw [if_pos q]; rfl
  · rw [if_neg q]; rfl
theorem cellAt_c {W H : Nat} (h : WHok W H) (x y : Int32) : (∃ a b, a < W ∧ b < H ∧ x = nI a ∧ y = nI b ∧ fX4_cellAt x y (nI W) (nI H) = nI (b * W + a) ∧ b * W + a < W * H) ∨ ((¬ ∃ a b, a < W ∧ b < H ∧ x = nI a ∧ y = nI b) ∧ fX4_cellAt x y (nI W) (nI H) = -1) := by
  have h' := h
  obtain ⟨h1, h2, h3, h4⟩ := h'
  by_cases hx : x < 0
  · exact Or.inr ⟨fun ⟨a, b, ha, _, e, _⟩ => by subst e; exact nI_pos (by omega) hx, cellAt_negx hx⟩
  · by_cases hy : y < 0
    · exact Or.inr ⟨fun ⟨a, b, _, hb, _, e⟩ => by subst e; exact nI_pos (by omega) hy, cellAt_negy hy⟩
    · obtain ⟨a, ha, rfl⟩ := nI_of hx
      obtain ⟨b, hb, rfl⟩ := nI_of hy
      rw [cellAt_nat h ha hb]
      by_cases q : a < W ∧ b < H
      · rw [if_pos q]
        refine Or.inl ⟨a, b, q.1, q.2, rfl, rfl, rfl, ?_⟩
        rcases W8 h1 h2 with rfl | rfl | rfl | rfl | rfl | rfl | rfl | rfl <;> omega
      · rw [if_neg q]
        refine Or.inr ⟨fun ⟨a', b', ha', hb', e1, e2⟩ => q ?_, rfl⟩
        rw [nI_eq (by omega) (by omega)] at e1 e2
        omega
theorem beside_eq {W H c way : Nat} (h : WHok W H) (hc : c < W * H) (hw : way < 4) : fX4_beside (nI c) (nI way) (nI W) (nI H) = some (oI (bs W H c way)) := by
  have hWH := WH_le h
  have h' := h
  obtain ⟨h1, h2, h3, h4⟩ := h'
  unfold fX4_beside
  have hw0 : ¬ nI W = 0 := nI_ne0 (by omega) (by omega)
  have er : nI c - nI c / nI W * nI W = nI (c % W) := pk_rem (by omega) (by omega) (by omega)
  have ed : nI c / nI W = nI (c / W) := pk_div (by omega) (by omega) (by omega)
  have hr : c % W < W := Nat.mod_lt _ h1
  have hd : c / W < H := by rcases W8 h1 h2 with rfl | rfl | rfl | rfl | rfl | rfl | rfl | rfl <;> omega
  have hcw : c = (c / W) * W + c % W := by rcases W8 h1 h2 with rfl | rfl | rfl | rfl | rfl | rfl | rfl | rfl <;> omega
  rw [er, ed]
  simp only [hw0, if_false]
  have a0 : ∀ k : Nat, nI k + (0 : Int32) = nI k := fun k => nI_add k 0
  have a1 : ∀ k : Nat, nI k + (1 : Int32) = nI (k + 1) := fun k => nI_1 k
  unfold bs
  rcases (show way = 0 ∨ way = 1 ∨ way = 2 ∨ way = 3 by omega) with rfl | rfl | rfl | rfl
  · rw [if_pos (show nI 0 = 0 from rfl), if_neg (show ¬ nI 0 = 2 by decide), if_neg (show ¬ nI 0 = 3 by decide), if_pos rfl, a0, a1, cellAt_nat h (by omega) (by omega)]
    by_cases q : c % W + 1 < W
    · rw [if_pos ⟨q, hd⟩, if_pos q]
      show some (nI _) = some (nI _)
      congr 2; omega
    · rw [if_neg (fun z => q z.1), if_neg q]; rfl
  · rw [if_neg (show ¬ nI 1 = 0 by decide), if_pos (show nI 1 = 1 from rfl), if_neg (show ¬ nI 1 = 2 by decide), if_neg (show ¬ nI 1 = 3 by decide), if_neg (by decide), if_pos rfl, a0]
    by_cases q : 0 < c % W
    · rw [if_pos q, sb_m1 q, cellAt_nat h (by omega) (by omega), if_pos ⟨by omega, hd⟩]
      show some (nI _) = some (nI _)
      congr 2; omega
    · rw [if_neg q, show c % W = 0 by omega, cellAt_negx (by decide)]; rfl
  · rw [if_neg (show ¬ nI 2 = 0 by decide), if_neg (show ¬ nI 2 = 1 by decide), if_pos (show nI 2 = 2 from rfl), if_neg (by decide), if_neg (by decide), if_pos rfl, a0, a1, cellAt_nat h (by omega) (by omega)]
    by_cases q : c / W + 1 < H
    · rw [if_pos ⟨hr, q⟩, if_pos q]
      show some (nI _) = some (nI _)
      congr 2; rw [Nat.add_mul]; omega
    · rw [if_neg (fun z => q z.2), if_neg q]; rfl
  · rw [if_neg (show ¬ nI 3 = 0 by decide), if_neg (show ¬ nI 3 = 1 by decide), if_neg (show ¬ nI 3 = 2 by decide), if_pos (show nI 3 = 3 from rfl), if_neg (by decide), if_neg (by decide), if_neg (by decide), a0]
    by_cases q : 0 < c / W
    · rw [if_pos q, sb_m1 q, cellAt_nat h (by omega) (by omega), if_pos ⟨hr, by omega⟩]
      show some (nI _) = some (nI _)
      congr 2
      obtain ⟨d, hd'⟩ : ∃ d, c / W = d + 1 := ⟨c / W - 1, by omega⟩
      rw [hd'] at hcw ⊢
      rw [Nat.add_mul] at hcw
      simp only [Nat.add_sub_cancel]
      omega
    · rw [if_neg q, show c / W = 0 from Nat.eq_zero_of_not_pos q, cellAt_negy (by decide)]; rfl

/-! what the class's grid answers, in words of cells: cell i is what the cell x + 8 * y is of -/
theorem n6 {k : Nat} (h : k < 6) : ¬ (6 : Int32) ≤ nI k := nI_ge h (by decide)
theorem g6 : (6 : Int32) ≤ nI 6 := by decide
theorem ix6 {k : Nat} (h : k < 6) : ix (nI k) 6 = true := by rw [ix_nI (by omega)]; exact h
theorem cl6 {k : Nat} (h : k < 6) : (nI k).toNatClampNeg = k := nI_clamp (by omega)
theorem n64 {k : Nat} (h : k < 64) : ¬ (64 : Int32) ≤ nI k := nI_ge h (by decide)
theorem g64 : (64 : Int32) ≤ nI 64 := by decide
noncomputable def tf (P : Prop) : Int32 := @ite _ P (Classical.propDecidable P) 1 0
theorem tf_t {P : Prop} (h : P) : tf P = 1 := if_pos h
theorem tf_f {P : Prop} (h : ¬ P) : tf P = 0 := if_neg h
theorem tf_c (P : Prop) : (P ∧ tf P = 1) ∨ (¬ P ∧ tf P = 0) := (Classical.em P).elim (fun h => Or.inl ⟨h, tf_t h⟩) (fun h => Or.inr ⟨h, tf_f h⟩)
theorem tf_0 {P : Prop} : tf P = 0 ↔ ¬ P := by
  rcases tf_c P with ⟨h, e⟩ | ⟨h, e⟩ <;> rw [e] <;> simp [h]
theorem tf_iff {P Q : Prop} (h : P ↔ Q) : tf P = tf Q := by rw [propext h]
def onb (W H i : Nat) : Prop := i % 8 < W ∧ i / 8 < H
def edg (W H i : Nat) : Prop := onb W H i ∧ (i % 8 = 0 ∨ i % 8 + 1 = W ∨ i / 8 = 0 ∨ i / 8 + 1 = H)
def okv (v : Int32) : Prop := v = -4 ∨ ∃ l, l < 6 ∧ v = nI l
/-- the lands' sets hold the cells -/
def CR (cell : Nat → Int32) (gl : Nat → Int64) : Prop := ∀ l, l < 6 → ∀ i, i < 64 → (Bt (gl l) i = true ↔ cell i = nI l)
theorem isLand_c (x : Int32) : (∃ l, l < 6 ∧ x = nI l ∧ fX3_isLand x = 1) ∨ ((∀ l, l < 6 → ¬ x = nI l) ∧ fX3_isLand x = 0) := by
  unfold fX3_isLand
  rcases pk_ix x (n := 6) (by decide) with h | h | ⟨j, hj, rfl⟩
  · refine Or.inr ⟨fun l hl e => ?_, if_pos h⟩
    subst e; exact nI_pos (by omega) h
  · refine Or.inr ⟨fun l hl e => ?_, ?_⟩
    · subst e; exact n6 hl h
    · by_cases q : x < 0
      · exact if_pos q
      · rw [if_neg q]; exact if_pos h
  · exact Or.inl ⟨j, hj, rfl, by rw [if_neg (nI_pos (by omega)), if_neg (n6 hj)]⟩
theorem isLand_in {l : Nat} (h : l < 6) : fX3_isLand (nI l) = 1 := by unfold fX3_isLand; rw [if_neg (nI_pos (by omega)), if_neg (n6 h)]
theorem Bt_f {x : Int64} {i : Nat} (h : ¬ Bt x i = true) : Bt x i = false := by cases e : Bt x i with | false => rfl | true => exact absurd e h
theorem landOf_eq {cell : Nat → Int32} {gl : Nat → Int64} (hc : CR cell gl) {i : Nat} (hi : i < 64) (hv : okv (cell i)) : fX0_landOf (nI i) gl = some (cell i) := by
  have step : ∀ k, k < 6 → ¬ cell i = nI k → fX0_landOf_2 (nI i) gl (nI k) = some (.inl (nI (k + 1))) := by
    intro k hk hne
    unfold fX0_landOf_2
    rw [if_neg (n6 hk), if_pos (ix6 hk), cl6 hk, if_pos, nI_1]
    rw [cmp0, Bt_eq0]
    intro j hj
    rw [Bt_and, Bt_bit i hi hj]
    by_cases e : j = i
    · subst e; rw [Bt_f (fun q => hne ((hc k hk j hj).mp q))]; rfl
    · simp [e]
  rcases hv with e | ⟨l, hl, e⟩
  · rw [e]
    show wh (fX0_landOf_2 (nI i) gl) FU (nI 0) = some _
    exact wh_cnt (fun k => nI k) 6 FU (fun k hk => step k hk (by rw [e]; exact fun q => sw_nI (by omega) q.symm)) (by unfold fX0_landOf_2; exact if_pos g6) (by decide)
  · rw [e]
    show wh (fX0_landOf_2 (nI i) gl) FU (nI 0) = some _
    refine wh_cnt (fun k => nI k) l FU (fun k hk => step k (by omega) (by rw [e, eqP (by omega) (by omega)]; omega)) ?_ (by unfold FU; omega)
    unfold fX0_landOf_2
    rw [if_neg (n6 hl), if_pos (ix6 hl), cl6 hl, if_neg]
    rw [cmp0, Bt_ne0]
    exact ⟨i, hi, by rw [Bt_and, Bt_bit i hi hi, (hc l hl i hi).mpr e]; simp⟩
def pv (gl : Nat → Int64) (b : Int64) (v : Int32) (j : Nat) : Int64 := if nI j = v then (gl j &&& (b ^^^ (-1))) ||| b else gl j &&& (b ^^^ (-1))
def putf (gl : Nat → Int64) (b : Int64) (v : Int32) (n : Nat) : Nat → Int64 := fun j => if j < n then pv gl b v j else gl j
theorem put_eq (x v : Int32) (gl : Nat → Int64) : fX0_put x v gl = some (putf gl (fX3_bit x) v 6) := by
  have e : wh (fX0_put_2 x v) FU (nI 0, putf gl (fX3_bit x) v 0) = some (putf gl (fX3_bit x) v 6) := by
    refine wh_cnt (fun k => (nI k, putf gl (fX3_bit x) v k)) 6 FU (fun k hk => ?_) ?_ (by decide)
    · unfold fX0_put_2
      dsimp only
      rw [if_neg (n6 hk), if_pos (ix6 hk), if_pos (ix6 hk), nI_1, cl6 hk]
      by_cases hv : nI k = v
      · rw [if_pos hv, if_pos (ix6 hk), if_pos (ix6 hk)]
        refine congrArg (fun z => some (Sum.inl (nI (k + 1), z))) (funext fun j => ?_)
        unfold vp_updL putf pv
        by_cases hj : j = k
        · subst hj; simp [hv]
        · have : (j < k + 1) = (j < k) := propext (by omega)
          simp [hj, this]
      · rw [if_neg hv]
        refine congrArg (fun z => some (Sum.inl (nI (k + 1), z))) (funext fun j => ?_)
        unfold vp_updL putf pv
        by_cases hj : j = k
        · subst hj; simp [hv]
        · have : (j < k + 1) = (j < k) := propext (by omega)
          simp [hj, this]
    · unfold fX0_put_2
      exact if_pos g6
  have e0 : putf gl (fX3_bit x) v 0 = gl := funext fun j => by simp [putf]
  rw [e0] at e
  show (wh (fX0_put_2 x v) FU (nI 0, gl)).bind _ = _
  rw [e]; rfl
theorem putf_CR {cell : Nat → Int32} {gl : Nat → Int64} (hc : CR cell gl) {i : Nat} (hi : i < 64) (v : Int32) : CR (fun j => if j = i then v else cell j) (putf gl (fX3_bit (nI i)) v 6) := by
  intro l hl j hj
  show Bt (if l < 6 then pv gl (fX3_bit (nI i)) v l else gl l) j = true ↔ (if j = i then v else cell j) = nI l
  rw [if_pos hl]
  unfold pv
  by_cases hv : nI l = v
  · rw [if_pos hv, Bt_or, Bt_and, Bt_not _ hj, Bt_bit i hi hj]
    by_cases e : j = i
    · simp [e, hv]
    · simp only [e, decide_false, Bool.not_false, Bool.and_true, Bool.or_false, if_false]
      exact hc l hl j hj
  · rw [if_neg hv, Bt_and, Bt_not _ hj, Bt_bit i hi hj]
    by_cases e : j = i
    · simp [e, Ne.symm hv]
    · simp only [e, decide_false, Bool.not_false, Bool.and_true, if_false]
      exact hc l hl j hj
/-- put, and put back -/
theorem putf_back {cell : Nat → Int32} {gl : Nat → Int64} (hc : CR cell gl) {i : Nat} (hi : i < 64) (v : Int32) : putf (putf gl (fX3_bit (nI i)) v 6) (fX3_bit (nI i)) (cell i) 6 = gl := by
  have h1 := putf_CR (putf_CR hc hi v) hi (cell i)
  funext l
  by_cases hl : l < 6
  · refine Bt_ext (fun j hj => ?_)
    have h2 := h1 l hl j hj
    have h3 := hc l hl j hj
    have e : (if j = i then cell i else if j = i then v else cell j) = cell j := by
      by_cases q : j = i
      · subst q; simp
      · simp [q]
    have h2 : _ ↔ (if j = i then cell i else if j = i then v else cell j) = nI l := h2
    rw [e] at h2
    exact Bool.eq_iff_iff.mpr (h2.trans h3.symm)
  · show (if l < 6 then _ else (if l < 6 then _ else gl l)) = gl l
    rw [if_neg hl, if_neg hl]
theorem cellsOf_in {l : Nat} (h : l < 6) (gl : Nat → Int64) : fX0_cellsOf (nI l) gl = some (gl l) := by
  unfold fX0_cellsOf
  rw [isLand_in h, if_neg (by decide), if_pos (ix6 h), cl6 h]
theorem cellsOf_out {x : Int32} (h : fX3_isLand x = 0) (gl : Nat → Int64) : fX0_cellsOf x gl = some 0 := by
  unfold fX0_cellsOf
  rw [if_pos h]
def orU (gl : Nat → Int64) : Nat → Int64
  | 0 => 0
  | k + 1 => orU gl k ||| gl k
theorem orU_Bt (gl : Nat → Int64) (i : Nat) : ∀ n, (Bt (orU gl n) i = true ↔ ∃ l, l < n ∧ Bt (gl l) i = true) := by
  intro n
  induction n with
  | zero => rw [show orU gl 0 = 0 from rfl, Bt_0]; exact ⟨(fun h => by cases h), (fun ⟨l, h, _⟩ => by omega)⟩
  | succ n ih =>
    rw [show orU gl (n + 1) = orU gl n ||| gl n from rfl, Bt_or, Bool.or_eq_true, ih]
    constructor
    · rintro (⟨l, h, b⟩ | b)
      · exact ⟨l, by omega, b⟩
      · exact ⟨n, by omega, b⟩
    · rintro ⟨l, h, b⟩
      by_cases e : l = n
      · subst e; exact Or.inr b
      · exact Or.inl ⟨l, by omega, b⟩
theorem peopledCells_eq (gl : Nat → Int64) : fX0_peopledCells gl = some (orU gl 6) := by
  have e : wh (fX0_peopledCells_4 gl) FU (orU gl 0, nI 0) = some (orU gl 6) := by
    refine wh_cnt (fun k => (orU gl k, nI k)) 6 FU (fun k hk => ?_) ?_ (by decide)
    · unfold fX0_peopledCells_4
      dsimp only
      rw [if_neg (n6 hk), if_pos (ix6 hk), nI_1, cl6 hk]; rfl
    · unfold fX0_peopledCells_4; exact if_pos g6
  show (wh (fX0_peopledCells_4 gl) FU (0, nI 0)).bind _ = _
  rw [show (0 : Int64) = orU gl 0 from rfl, e]; rfl
theorem orU_cell {cell : Nat → Int32} {gl : Nat → Int64} (hc : CR cell gl) {i : Nat} (hi : i < 64) (hv : okv (cell i)) : Bt (orU gl 6) i = true ↔ ¬ cell i = -4 := by
  rw [orU_Bt]
  constructor
  · rintro ⟨l, hl, b⟩ e
    rw [(hc l hl i hi).mp b] at e
    exact sw_nI (by omega) e
  · intro h
    rcases hv with e | ⟨l, hl, e⟩
    · exact absurd e h
    · exact ⟨l, hl, (hc l hl i hi).mpr e⟩
/-- what a set of cells touches of the sea -/
def SeaT (W H : Nat) (cell : Nat → Int32) (S : Nat → Prop) : Prop := ∃ i, i < 64 ∧ S i ∧ (edg W H i ∨ ∃ j, j < 64 ∧ nb i j ∧ onb W H j ∧ cell j = -4)
/-- off the board is sea -/
def BS (W H : Nat) (cell : Nat → Int32) : Prop := (1 ≤ W ∧ W ≤ 8 ∧ 1 ≤ H ∧ H ≤ 8) ∧ ∀ i, ¬ onb W H i → cell i = -4
theorem Bt_rim : ∀ i, i < 64 → Bt (-35604928818740737) i = decide (i % 8 = 0 ∨ i % 8 = 7 ∨ i / 8 = 0 ∨ i / 8 = 7) := by decide +kernel
theorem isAtSea_eq {W H : Nat} {cell : Nat → Int32} {gl : Nat → Int64} (hc : CR cell gl) (hv : ∀ i, okv (cell i)) (hb : BS W H cell) (x : Int64) (hx : ∀ i, i < 64 → Bt x i = true → onb W H i) : fX0_isAtSea x gl = some (tf (SeaT W H cell (fun i => Bt x i = true))) := by
  obtain ⟨⟨w1, w8, h1, h8⟩, hoff⟩ := hb
  unfold fX0_isAtSea
  rw [peopledCells_eq]
  have hsea : ∀ j, j < 64 → (Bt (orU gl 6 ^^^ (-1)) j = true ↔ cell j = -4) := by
    intro j hj
    rw [Bt_not _ hj]
    have h := orU_cell hc hj (hv j)
    cases e : Bt (orU gl 6) j with
    | true => rw [e] at h; simp [h.mp rfl]
    | false =>
      rw [e] at h
      have : cell j = -4 := Classical.byContradiction (fun q => by cases h.mpr q)
      simp [this]
  simp only [cmpP, Option.bind_some]
  by_cases q1 : x &&& (-35604928818740737) = 0
  · rw [if_pos q1]
    by_cases q2 : fX3_around x &&& (orU gl 6 ^^^ (-1)) = 0
    · rw [if_pos q2, tf_f]
      rintro ⟨i, hi, hs, hr⟩
      -- beside each cell of the set are cells of no land's alone
      have hno : ∀ j, j < 64 → nb i j → ¬ cell j = -4 := by
        intro j hj hn ho
        have := Bt_eq0.mp q2 j hj
        rw [Bt_and, (hsea j hj).mpr ho, (Bt_around x hj).mpr ⟨i, hi, hn, hs⟩] at this; cases this
      have hrim : ¬ (i % 8 = 0 ∨ i % 8 = 7 ∨ i / 8 = 0 ∨ i / 8 = 7) := by
        intro hr
        have := Bt_eq0.mp q1 i hi
        rw [Bt_and, hs, Bt_rim i hi, decide_eq_true hr] at this; cases this
      rcases hr with ⟨-, he⟩ | ⟨j, hj, hn, -, ho⟩
      · rcases he with e | e | e | e
        · exact hrim (Or.inl e)
        · refine hno (i + 1) (by omega) (by unfold nb; omega) (hoff _ ?_)
          unfold onb; omega
        · exact hrim (Or.inr (Or.inr (Or.inl e)))
        · refine hno (i + 8) (by omega) (by unfold nb; omega) (hoff _ ?_)
          unfold onb; omega
      · exact hno j hj hn ho
    · rw [if_neg q2, tf_t]
      obtain ⟨j, hj, b⟩ := Bt_ne0.mp q2
      rw [Bt_and, Bool.and_eq_true, hsea j hj, Bt_around x hj] at b
      obtain ⟨⟨i, hi, hn, hs⟩, ho⟩ := b
      refine ⟨i, hi, hs, ?_⟩
      by_cases hon : onb W H j
      · exact Or.inr ⟨j, hj, hn, hon, ho⟩
      · refine Or.inl ⟨hx i hi hs, ?_⟩
        have hon2 := hx i hi hs
        unfold nb at hn
        unfold onb at hon hon2
        omega
  · rw [if_neg q1, tf_t]
    obtain ⟨i, hi, b⟩ := Bt_ne0.mp q1
    rw [Bt_and, Bool.and_eq_true, Bt_rim i hi, decide_eq_true_eq] at b
    have hon := hx i hi b.1
    refine ⟨i, hi, b.1, Or.inl ⟨hon, ?_⟩⟩
    have hr := b.2
    unfold onb at hon
    omega

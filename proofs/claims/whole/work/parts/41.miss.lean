/-! what is missing -/
def dif (a b : Nat) : Nat := (a - b) + (b - a)
theorem dif_le {a b : Nat} (ha : a ≤ 65) (hb : b ≤ 64) : dif a b ≤ 65 := by unfold dif; omega
theorem dif_c {a b : Nat} (ha : a < 1000) (hb : b < 1000) : (if 0 ≤ nI a - nI b then nI a - nI b else 0 - (nI a - nI b)) = nI (dif a b) := by
  unfold dif
  rcases Nat.lt_or_ge a b with h | h
  · have hneg : ¬ (0 : Int32) ≤ nI a - nI b := by
      have h1 := pk_sneg (a := a) (b := b) (by omega) h
      rw [Int32.le_iff_toInt_le, Int32.toInt_zero]
      rw [Int32.lt_iff_toInt_lt, Int32.toInt_zero] at h1
      omega
    rw [if_neg hneg, show a - b + (b - a) = b - a by omega, ← pk_sub (show a ≤ b by omega)]
    rw [Int32.zero_sub, Int32.neg_sub]
  · rw [pk_sub h, if_pos (nI_pos' (by omega)), show a - b + (b - a) = a - b by omega]
theorem dif_n {a b : Nat} (ha : a < 1000) (hb : b < 1000) : (if 0 ≤ nI a - nI b then nI a - nI b else -(nI a - nI b)) = nI (dif a b) := by
  rw [← dif_c ha hb]
  by_cases h : 0 ≤ nI a - nI b
  · rw [if_pos h, if_pos h]
  · rw [if_neg h, if_neg h, Int32.zero_sub]
def WW (wa : Nat → Int32) (ws : Nat → Nat) : Prop := ∀ l, l < 6 → wa l = nI (ws l) ∧ ws l ≤ 64
def ms1 (cell : Nat → Int32) (ws : Nat → Nat) (l : Nat) : Nat := if cnt cell l = 0 then 0 else dif (cnt cell l) (ws l)
def msU (cell : Nat → Int32) (ws : Nat → Nat) : Nat → Nat
  | 0 => 0
  | l + 1 => msU cell ws l + ms1 cell ws l
theorem ms1_le {cell : Nat → Int32} {ws wa' : Nat → Nat} {wa : Nat → Int32} (hw : WW wa ws) {l : Nat} (hl : l < 6) : ms1 cell ws l ≤ 65 := by
  unfold ms1
  by_cases h : cnt cell l = 0
  · rw [if_pos h]; omega
  · rw [if_neg h]; exact dif_le (by have := cnt_le cell l; omega) (hw l hl).2
theorem msU_le {cell : Nat → Int32} {ws : Nat → Nat} {wa : Nat → Int32} (hw : WW wa ws) : ∀ n, n ≤ 6 → msU cell ws n ≤ n * 65 := by
  intro n
  induction n with
  | zero => intro _; exact Nat.le_refl _
  | succ n ih =>
    intro h
    have h1 := ih (by omega)
    have h2 := ms1_le (cell := cell) (wa' := ws) hw (show n < 6 by omega)
    show msU cell ws n + ms1 cell ws n ≤ _
    omega
theorem missWith_eq {wa : Nat → Int32} {ws : Nat → Nat} (hw : WW wa ws) {l n : Nat} (hl : l < 6) (hn : n < 1000) : fX3_missWith (nI l) (nI n) wa = some (nI (dif n (ws l))) := by
  unfold fX3_missWith
  have := (hw l hl).2
  rw [isLand_in hl, if_neg (by decide), if_pos (ix6 hl), cl6 hl, (hw l hl).1, dif_c hn (by omega)]
theorem miss_eq {cell : Nat → Int32} {gl : Nat → Int64} {wa : Nat → Int32} {ws : Nat → Nat} (hc : CR cell gl) (hw : WW wa ws) : fX3_miss gl wa = some (nI (msU cell ws 6)) := by
  have e : wh (fX3_miss_4 gl wa) FU (nI (msU cell ws 0), nI 0) = some (nI (msU cell ws 6)) := by
    refine wh_cnt (fun k => (nI (msU cell ws k), nI k)) 6 FU (fun k hk => ?_) ?_ (by decide)
    · unfold fX3_miss_4
      dsimp only
      rw [if_neg (n6 hk), sizeOf_in hc hk]
      simp only [Option.bind_some, nI_1]
      have hle := cnt_le cell k
      show _ = some (Sum.inl (nI (msU cell ws k + ms1 cell ws k), nI (k + 1)))
      unfold ms1
      by_cases h : cnt cell k = 0
      · rw [if_pos h, if_pos (by rw [h]; decide)]; rfl
      · rw [if_neg h, if_neg (nI_nle (by omega) (by omega)), missWith_eq hw hk (by omega)]
        simp only [Option.bind_some, nI_add]
    · unfold fX3_miss_4; exact if_pos g6
  show (wh (fX3_miss_4 gl wa) FU (nI (msU cell ws 0), nI 0)).bind _ = _
  rw [e]; rfl
theorem mmiss_eq {W H : Nat} {cell ce : Nat → Int32} {wa : Nat → Int32} {ws : Nat → Nat} (hb : BD W H cell) (hm : MC W H cell ce) (hw : WW wa ws) : fX4_missNow (nI W) (nI H) ce wa = some (nI (msU cell ws 6)) := by
  have e : wh (fX4_missNow_4 (nI W) (nI H) ce wa) FU (nI (msU cell ws 0), nI 0) = some (nI (msU cell ws 6)) := by
    refine wh_cnt (fun k => (nI (msU cell ws k), nI k)) 6 FU (fun k hk => ?_) ?_ (by decide)
    · unfold fX4_missNow_4
      dsimp only
      rw [if_neg (n6 hk), msize_l hb hm hk]
      simp only [Option.bind_some, nI_1, nI_z]
      have hle := cnt_le cell k
      have h64 := (hw k hk).2
      rw [if_pos (ix6 hk), cl6 hk, (hw k hk).1]
      show _ = some (Sum.inl (nI (msU cell ws k + ms1 cell ws k), nI (k + 1)))
      unfold ms1
      by_cases h : cnt cell k = 0
      · rw [if_pos h, if_pos (by rw [h]; rfl)]; rfl
      · rw [if_neg h, if_neg (nI_ne0 (by omega) (by omega)), ← nI_add (msU cell ws k), ← dif_n (a := cnt cell k) (b := ws k) (by omega) (by omega)]
        by_cases q : 0 ≤ nI (cnt cell k) - nI (ws k)
        · rw [if_pos q, if_pos q]
        · rw [if_neg q, if_neg q]; rfl
    · unfold fX4_missNow_4; exact if_pos g6
  show (wh (fX4_missNow_4 (nI W) (nI H) ce wa) FU (nI (msU cell ws 0), nI 0)).bind _ = _
  rw [e]; rfl
/-- a cell goes to a land -/
def gone (cell : Nat → Int32) (i t : Nat) : Nat → Int32 := fun j => if j = i then nI t else cell j
theorem cnt_gone {cell : Nat → Int32} {i t x : Nat} (hi : i < 64) (ht : t < 6) (hx : x < 6) : cnt (gone cell i t) x + (if cell i = nI x then 1 else 0) = cnt cell x + (if t = x then 1 else 0) := by
  have e := fb_ct_upd (fun j => decide (cell j = nI x)) (decide (t = x)) (i := i) (n := 64) hi
  have e2 : cnt (gone cell i t) x = fb_ct (fun k => if k = i then decide (t = x) else decide (cell k = nI x)) 64 := by
    refine fb_ct_cong (fun k hk => ?_)
    show decide ((if k = i then nI t else cell k) = nI x) = _
    by_cases q : k = i
    · rw [if_pos q, if_pos q]
      exact decide_eq_decide.mpr (nI_eq (by omega) (by omega))
    · rw [if_neg q, if_neg q]
  rw [← e2] at e
  simp only [decide_eq_true_eq] at e
  exact e
theorem sum6 (f g : Nat → Nat) (l t : Nat) (hl : l < 6) (ht : t < 6) (hlt : l ≠ t) (h : ∀ x, x < 6 → x ≠ l → x ≠ t → g x = f x) : (g 0 + g 1 + g 2 + g 3 + g 4 + g 5) + f l + f t = (f 0 + f 1 + f 2 + f 3 + f 4 + f 5) + g l + g t := by
  have h0 := h 0 (by omega)
  have h1 := h 1 (by omega)
  have h2 := h 2 (by omega)
  have h3 := h 3 (by omega)
  have h4 := h 4 (by omega)
  have h5 := h 5 (by omega)
  rcases (show l = 0 ∨ l = 1 ∨ l = 2 ∨ l = 3 ∨ l = 4 ∨ l = 5 by omega) with rfl | rfl | rfl | rfl | rfl | rfl <;> rcases (show t = 0 ∨ t = 1 ∨ t = 2 ∨ t = 3 ∨ t = 4 ∨ t = 5 by omega) with rfl | rfl | rfl | rfl | rfl | rfl <;> first | exact absurd rfl hlt | (simp at h0 h1 h2 h3 h4 h5; omega)
theorem msU6 (cell : Nat → Int32) (ws : Nat → Nat) : msU cell ws 6 = ms1 cell ws 0 + ms1 cell ws 1 + ms1 cell ws 2 + ms1 cell ws 3 + ms1 cell ws 4 + ms1 cell ws 5 := by
  simp only [msU, Nat.zero_add]
theorem ms1_in6 (cell : Nat → Int32) (ws : Nat → Nat) {l t : Nat} (hl : l < 6) (ht : t < 6) (hlt : l ≠ t) : ms1 cell ws l + ms1 cell ws t ≤ msU cell ws 6 := by
  rw [msU6]
  rcases (show l = 0 ∨ l = 1 ∨ l = 2 ∨ l = 3 ∨ l = 4 ∨ l = 5 by omega) with rfl | rfl | rfl | rfl | rfl | rfl <;> rcases (show t = 0 ∨ t = 1 ∨ t = 2 ∨ t = 3 ∨ t = 4 ∨ t = 5 by omega) with rfl | rfl | rfl | rfl | rfl | rfl <;> first | exact absurd rfl hlt | omega
theorem missBehind_ex {cell : Nat → Int32} {gl : Nat → Int64} {wa : Nat → Int32} {ws : Nat → Nat} (hc : CR cell gl) (hw : WW wa ws) {m l t : Nat} (hl : l < 6) (ht : t < 6) (h1 : 1 ≤ cnt cell l) : fX3_missBehind (nI m) (nI l) (nI t) gl wa = some (nI m - nI (dif (cnt cell l) (ws l)) + nI (dif (cnt cell l - 1) (ws l)) - nI (dif (cnt cell t) (ws t)) + nI (dif (cnt cell t + 1) (ws t))) := by
  have c1 := cnt_le cell l
  have c2 := cnt_le cell t
  unfold fX3_missBehind
  rw [sizeOf_in hc hl, sizeOf_in hc ht]
  simp only [Option.bind_some]
  rw [show nI (cnt cell l) - (1 : Int32) = nI (cnt cell l - 1) from pk_sub (b := 1) h1, nI_1, missWith_eq hw hl (by omega), missWith_eq hw hl (by omega), missWith_eq hw ht (by omega), missWith_eq hw ht (by omega)]
  rfl
theorem missBehind_eq {cell : Nat → Int32} {gl : Nat → Int64} {wa : Nat → Int32} {ws : Nat → Nat} (hc : CR cell gl) (hw : WW wa ws) {i l t : Nat} (hi : i < 64) (hl : l < 6) (ht : t < 6) (hlt : l ≠ t) (hil : cell i = nI l) (h2 : 2 ≤ cnt cell l) (h1 : 1 ≤ cnt cell t) : fX3_missBehind (nI (msU cell ws 6)) (nI l) (nI t) gl wa = some (nI (msU (gone cell i t) ws 6)) := by
  rw [missBehind_ex hc hw hl ht (by omega)]
  have c1 := cnt_le cell l
  have c2 := cnt_le cell t
  have el := cnt_gone (cell := cell) hi ht hl
  have et := cnt_gone (cell := cell) hi ht ht
  rw [if_pos hil, if_neg (Ne.symm hlt)] at el
  rw [if_neg (by rw [hil, nI_eq (by omega) (by omega)]; exact hlt), if_pos rfl] at et
  have s := sum6 (ms1 cell ws) (ms1 (gone cell i t) ws) l t hl ht hlt (fun x hx n1 n2 => by
    have ex := cnt_gone (cell := cell) hi ht hx
    rw [if_neg (by rw [hil, nI_eq (by omega) (by omega)]; exact Ne.symm n1), if_neg (Ne.symm n2)] at ex
    unfold ms1
    rw [show cnt (gone cell i t) x = cnt cell x by omega])
  rw [← msU6, ← msU6] at s
  have a1 : ms1 cell ws l = dif (cnt cell l) (ws l) := if_neg (by omega)
  have a2 : ms1 cell ws t = dif (cnt cell t) (ws t) := if_neg (by omega)
  have a3 : ms1 (gone cell i t) ws l = dif (cnt cell l - 1) (ws l) := by
    unfold ms1
    rw [show cnt (gone cell i t) l = cnt cell l - 1 by omega]
    exact if_neg (by omega)
  have a4 : ms1 (gone cell i t) ws t = dif (cnt cell t + 1) (ws t) := by
    unfold ms1
    rw [show cnt (gone cell i t) t = cnt cell t + 1 by omega]
    exact if_neg (by omega)
  rw [a1, a2, a3, a4] at s
  have b := ms1_in6 cell ws hl ht hlt
  rw [a1, a2] at b
  generalize dif (cnt cell l) (ws l) = p1 at *
  generalize dif (cnt cell t) (ws t) = p2 at *
  generalize dif (cnt cell l - 1) (ws l) = p3 at *
  generalize dif (cnt cell t + 1) (ws t) = p4 at *
  rw [pk_sub (show p1 ≤ msU cell ws 6 by omega), nI_add, pk_sub (show p2 ≤ msU cell ws 6 - p1 + p3 by omega), nI_add]
  congr 2
  omega

/-! kind, about, leaves, may, move, want, miss, steps, undo, on both sides -/
section CALLS2
variable {B : Nat} {ask mtr : Int64} {gw gh top kep don mw mh mke mnx mdo : Int32} {gl : Nat → Int64} {vc vf ki ow wa ce mk mo mwa mmc mmf : Nat → Int32}
theorem KK_upd {kk : Nat → Nat} (h : KK ki kk) {l k : Nat} (hk : k ≤ 2) : KK (upd ki l (nI k)) (fun j => if j = l then k else kk j) := by
  intro j hj
  by_cases q : j = l
  · subst q; rw [pk_us]; dsimp only; rw [if_pos rfl]; exact ⟨rfl, hk⟩
  · rw [pk_un q]; dsimp only; rw [if_neg q]; exact h j hj
theorem OWN_upd {W H : Nat} (h : OWN W H ow mo) {l : Nat} {u v : Int32} (e : (u = -9 ∧ v = -1) ∨ ∃ i, onb W H i ∧ u = nI i ∧ v = nI (ci8 W i)) : OWN W H (upd ow l u) (upd mo l v) := by
  intro j hj
  by_cases q : j = l
  · subst q; rw [pk_us, pk_us]; exact e
  · rw [pk_un q, pk_un q]; exact h j hj
theorem b_kind (h : BoR B ask gw gh gl top kep don vc vf ki ow wa mw mh mke mnx mdo mtr ce mk mo mwa mmc mmf) (x1 x2 x3 x4 : Int32) :
    ∃ r ki' ow' mk' mo', fX3_kind x1 x2 x3 x4 gw gh gl ki ow = some (r, ki', ow') ∧ fX4_kind x1 x2 x3 x4 mw mh ce mk mo = some (r, mk', mo') ∧ BoR B ask gw gh gl top kep don vc vf ki' ow' wa mw mh mke mnx mdo mtr ce mk' mo' mwa mmc mmf := by
  obtain ⟨W, H, cell, kk, ws, rfl, rfl, rfl, rfl, rfl, hR, hk1, hk2, hw1, hw2, ho, hM⟩ := id h
  have hok : WHok W H := hR.1.1
  have hWH := WH_le hok
  rcases land_c x1 with ⟨l, hl, rfl, h1, h2⟩ | ⟨h0, h1, h2⟩
  · by_cases n0 : x2 < 0
    · exact ⟨-1, ki, ow, mk, mo, by unfold fX3_kind; rw [h1, if_neg (by decide), if_pos n0], by unfold fX4_kind; rw [h2, if_neg (by decide), in_no (Or.inl n0), if_pos rfl], h⟩
    · by_cases n2 : (2 : Int32) < x2
      · exact ⟨-1, ki, ow, mk, mo, by unfold fX3_kind; rw [h1, if_neg (by decide), if_neg n0, if_pos n2], by unfold fX4_kind; rw [h2, if_neg (by decide), in_no (Or.inr n2), if_pos rfl], h⟩
      · have hin : fX4_in x2 0 2 = 1 := in_yes n0 n2
        obtain ⟨k, hk, rfl⟩ := nI_up (k := 2) (by decide) n0 n2
        by_cases k0 : k = 0
        · subst k0
          refine ⟨1, upd ki l (nI 0), upd ow l (-9), upd mk l (nI 0), upd mo l (-1), ?_, ?_, W, H, cell, _, ws, rfl, rfl, rfl, rfl, rfl, hR, KK_upd hk1 hk, KK_upd hk2 hk, hw1, hw2, OWN_upd ho (Or.inl ⟨rfl, rfl⟩), hM⟩
          · unfold fX3_kind
            rw [h1, if_neg (by decide), if_neg n0, if_neg n2, if_pos (show nI 0 = 0 from rfl), if_pos (show nI 0 = 0 from rfl), if_pos (ix6 hl), if_pos (show nI 0 = 0 from rfl), if_pos (ix6 hl), cl6 hl]
          · unfold fX4_kind
            rw [h2, if_neg (by decide), hin, if_neg (by decide), if_pos (show nI 0 ≤ 0 by decide), if_pos (show nI 0 ≤ 0 by decide), if_pos (ix6 hl), if_pos (show nI 0 = 0 from rfl), if_pos (ix6 hl), cl6 hl]
        · have e0 : ¬ nI k = 0 := nI_ne0 (by omega) (by omega)
          have el : ¬ nI k ≤ 0 := nI_ge (b := k) (a := 0) (by omega) (by omega)
          rcases on_c hok x3 x4 with ⟨i, hi, a1, a2, a3, a4⟩ | ⟨a1, a3, a4⟩
          · have hi64 := onb_lt hok.2.2.2 hi
            have hc := ci_lt hok hi
            by_cases q : cell i = nI l
            · refine ⟨1, upd ki l (nI k), upd ow l (nI i), upd mk l (nI k), upd mo l (nI (ci8 W i)), ?_, ?_, W, H, cell, _, ws, rfl, rfl, rfl, rfl, rfl, hR, KK_upd hk1 hk, KK_upd hk2 hk, hw1, hw2, OWN_upd ho (Or.inr ⟨i, hi, rfl, rfl⟩), hM⟩
              · unfold fX3_kind
                rw [h1, if_neg (by decide), if_neg n0, if_neg n2, if_neg e0, a1, if_neg (by decide), if_neg e0, a2, landOf_eq hR.2.1 hi64 (hR.1.2.2 i)]
                simp only [Option.bind_some]
                rw [if_pos q, if_pos (ix6 hl), if_neg e0, if_pos (ix6 hl), cl6 hl]
              · unfold fX4_kind
                rw [h2, if_neg (by decide), hin, if_neg (by decide), if_neg el, a4, if_neg (by decide), if_neg el, a3, if_pos (ix64 (by omega)), cl64 (by omega), mc_at hok hR.2.2 hi, if_pos q, if_pos (ix6 hl), if_neg e0, if_pos (ix6 hl), cl6 hl]
            · refine ⟨-2, ki, ow, mk, mo, ?_, ?_, h⟩
              · unfold fX3_kind
                rw [h1, if_neg (by decide), if_neg n0, if_neg n2, if_neg e0, a1, if_neg (by decide), if_neg e0, a2, landOf_eq hR.2.1 hi64 (hR.1.2.2 i)]
                simp only [Option.bind_some]
                rw [if_neg q]
              · unfold fX4_kind
                rw [h2, if_neg (by decide), hin, if_neg (by decide), if_neg el, a4, if_neg (by decide), if_neg el, a3, if_pos (ix64 (by omega)), cl64 (by omega), mc_at hok hR.2.2 hi, if_neg q]
          · refine ⟨-1, ki, ow, mk, mo, ?_, ?_, h⟩
            · unfold fX3_kind
              rw [h1, if_neg (by decide), if_neg n0, if_neg n2, if_neg e0, a1, if_pos rfl]
            · unfold fX4_kind
              rw [h2, if_neg (by decide), hin, if_neg (by decide), if_neg el, a4, if_pos rfl]
  · exact ⟨-1, ki, ow, mk, mo, by unfold fX3_kind; rw [h1, if_pos rfl], by unfold fX4_kind; rw [h2, if_pos rfl], h⟩
theorem own_pos {W H : Nat} (hok : WHok W H) {l : Nat} {α : Type} {a b : α} (ho : OWN W H ow mo) (hl : l < 6) : (ow l = -9 ∧ mo l = -1) ∨ ∃ i, onb W H i ∧ ow l = nI i ∧ mo l = nI (ci8 W i) ∧ ¬ ow l = -9 ∧ 0 ≤ mo l := by
  rcases ho l hl with e | ⟨i, hi, e1, e2⟩
  · exact Or.inl e
  · refine Or.inr ⟨i, hi, e1, e2, ?_, ?_⟩
    · rw [e1]
      intro z
      have h1 := congrArg Int32.toInt z
      rw [nI_toInt (by have := onb_lt hok.2.2.2 hi; omega)] at h1
      have : (-9 : Int32).toInt = -9 := by decide
      omega
    · rw [e2]
      exact nI_pos' (by have := ci_lt hok hi; have := WH_le hok; omega)
theorem b_about (h : BoR B ask gw gh gl top kep don vc vf ki ow wa mw mh mke mnx mdo mtr ce mk mo mwa mmc mmf) (x y : Int32) : ∃ r, fX3_about x y ki ow wa = some r ∧ fX4_about x y mw mk mo mwa = some r := by
  obtain ⟨W, H, cell, kk, ws, rfl, rfl, rfl, rfl, rfl, hR, hk1, hk2, hw1, hw2, ho, hM⟩ := h
  have hok : WHok W H := hR.1.1
  have hWH := WH_le hok
  have hW0 : ¬ nI W = 0 := nI_ne0 (by have := hok.1; omega) (by have := hok.2.1; omega)
  rcases land_c x with ⟨l, hl, rfl, h1, h2⟩ | ⟨h0, h1, h2⟩
  · unfold fX3_about fX4_about
    rw [h1, h2, if_neg (show ¬ (1 : Int32) = 0 by decide), if_neg (show ¬ (1 : Int32) = 0 by decide)]
    simp only [if_pos (ix6 hl), cl6 hl]
    by_cases q0 : y = 0
    · exact ⟨ki l, if_pos q0, by rw [if_pos q0, (hk2 l hl).1, (hk1 l hl).1]⟩
    · by_cases q1 : y = 1
      · rw [if_neg q0, if_pos q1, if_neg q0, if_pos q1]
        rcases own_pos (α := Nat) (a := 0) (b := 0) hok ho hl with ⟨e1, e2⟩ | ⟨i, hi, e1, e2, e3, e4⟩
        · exact ⟨-9, if_pos e1, by rw [e2, if_neg (by decide)]⟩
        · refine ⟨nI (i % 8), ?_, ?_⟩
          · rw [if_neg e3, e1]
            unfold fX3_columnOf
            rw [show (8 : Int32) = nI 8 from rfl]
            exact congrArg some (pk_rem (by have := onb_lt hok.2.2.2 hi; omega) (by omega) (by omega))
          · rw [if_pos e4, if_neg hW0, e2]
            refine congrArg some ((pk_rem (by have := ci_lt hok hi; omega) (by have := hok.1; omega) (by have := hok.2.1; omega)).trans (congrArg nI ?_))
            unfold onb at hi
            unfold ci8
            rw [Nat.add_mul_mod_self_left, Nat.mod_eq_of_lt hi.1]
      · by_cases q2 : y = 2
        · rw [if_neg q0, if_neg q1, if_pos q2, if_neg q0, if_neg q1, if_pos q2]
          rcases own_pos (α := Nat) (a := 0) (b := 0) hok ho hl with ⟨e1, e2⟩ | ⟨i, hi, e1, e2, e3, e4⟩
          · exact ⟨-9, if_pos e1, by rw [e2, if_neg (by decide)]⟩
          · refine ⟨nI (i / 8), ?_, ?_⟩
            · rw [if_neg e3, e1]
              unfold fX3_rowOf
              rw [show (8 : Int32) = nI 8 from rfl]
              exact congrArg some (pk_div (by have := onb_lt hok.2.2.2 hi; omega) (by omega) (by omega))
            · rw [if_pos e4, if_neg hW0, e2]
              refine congrArg some ((pk_div (by have := ci_lt hok hi; omega) (by have := hok.1; omega) (by have := hok.2.1; omega)).trans (congrArg nI ?_))
              unfold onb at hi
              unfold ci8
              rw [Nat.add_mul_div_left _ _ (by have := hok.1; omega), Nat.div_eq_of_lt hi.1, Nat.zero_add]
        · by_cases q3 : y = 3
          · exact ⟨wa l, by rw [if_neg q0, if_neg q1, if_neg q2, if_pos q3], by rw [if_neg q0, if_neg q1, if_neg q2, if_pos q3, (hw2 l hl).1, (hw1 l hl).1]⟩
          · exact ⟨-1, by rw [if_neg q0, if_neg q1, if_neg q2, if_neg q3], by rw [if_neg q0, if_neg q1, if_neg q2, if_neg q3]⟩
  · exact ⟨-1, by unfold fX3_about; rw [h1, if_pos rfl], by unfold fX4_about; rw [h2, if_pos rfl]⟩
theorem b_want (h : BoR B ask gw gh gl top kep don vc vf ki ow wa mw mh mke mnx mdo mtr ce mk mo mwa mmc mmf) (x y : Int32) :
    ∃ r wa' mwa', fX3_want x y wa = some (r, wa') ∧ fX4_want x y mwa = some (r, mwa') ∧ BoR B ask gw gh gl top kep don vc vf ki ow wa' mw mh mke mnx mdo mtr ce mk mo mwa' mmc mmf := by
  obtain ⟨W, H, cell, kk, ws, rfl, rfl, rfl, rfl, rfl, hR, hk1, hk2, hw1, hw2, ho, hM⟩ := id h
  have upW : ∀ {f : Nat → Int32} {l a : Nat}, WW f ws → a ≤ 64 → WW (upd f l (nI a)) (fun j => if j = l then a else ws j) := by
    intro f l a hf ha j hj
    by_cases q : j = l
    · subst q; rw [pk_us]; dsimp only; rw [if_pos rfl]; exact ⟨rfl, ha⟩
    · rw [pk_un q]; dsimp only; rw [if_neg q]; exact hf j hj
  rcases land_c x with ⟨l, hl, rfl, h1, h2⟩ | ⟨h0, h1, h2⟩
  · by_cases n0 : y < 0
    · exact ⟨-1, wa, mwa, by unfold fX3_want; rw [h1, if_neg (by decide), if_pos n0], by unfold fX4_want; rw [h2, if_neg (by decide), in_no (Or.inl n0), if_pos rfl], h⟩
    · by_cases n2 : (64 : Int32) < y
      · exact ⟨-1, wa, mwa, by unfold fX3_want; rw [h1, if_neg (by decide), if_neg n0, if_neg (nlt_le n2)], by unfold fX4_want; rw [h2, if_neg (by decide), in_no (Or.inr n2), if_pos rfl], h⟩
      · have hin : fX4_in y 0 64 = 1 := in_yes n0 n2
        have hle := nl_le n2
        obtain ⟨a, ha, rfl⟩ := nI_up (k := 64) (by decide) n0 n2
        refine ⟨wa l, upd wa l (nI a), upd mwa l (nI a), ?_, ?_, W, H, cell, kk, _, rfl, rfl, rfl, rfl, rfl, hR, hk1, hk2, upW hw1 ha, upW hw2 ha, ho, hM⟩
        · unfold fX3_want
          rw [h1, if_neg (by decide), if_neg n0, if_pos hle, if_pos (ix6 hl), if_pos (ix6 hl), cl6 hl]
        · unfold fX4_want
          rw [h2, if_neg (by decide), hin, if_neg (by decide), if_pos (ix6 hl), if_pos (ix6 hl), cl6 hl, (hw2 l hl).1, (hw1 l hl).1]
  · exact ⟨-1, wa, mwa, by unfold fX3_want; rw [h1, if_pos rfl], by unfold fX4_want; rw [h2, if_pos rfl], h⟩
theorem b_miss (h : BoR B ask gw gh gl top kep don vc vf ki ow wa mw mh mke mnx mdo mtr ce mk mo mwa mmc mmf) : ∃ r, fX3_miss gl wa = some r ∧ fX4_miss mw mh ce mwa = some r := by
  obtain ⟨W, H, cell, kk, ws, rfl, rfl, rfl, rfl, rfl, hR, hk1, hk2, hw1, hw2, ho, hM⟩ := h
  exact ⟨_, miss_eq hR.2.1 hw1, by unfold fX4_miss; rw [mmiss_eq hR.1 hR.2.2 hw2]; rfl⟩
theorem bodies : ∀ k, k ≤ 2 → fX3_bodiesAsked (nI k) = if k = 2 then 111 else if k = 1 then 11 else 1 := by decide +kernel
theorem b_leaves (h : BoR B ask gw gh gl top kep don vc vf ki ow wa mw mh mke mnx mdo mtr ce mk mo mwa mmc mmf) (x y : Int32) (pi me : Nat → Int32) :
    ∃ r ask' mtr' pi' me', fX3_leaves x y ask gw gh gl ki ow = some (r, ask') ∧ fX4_leaves x y mw mh mtr ce mk mo pi me = some (r, mtr', ce, pi', me') ∧ BoR B ask' gw gh gl top kep don vc vf ki ow wa mw mh mke mnx mdo mtr' ce mk mo mwa mmc mmf := by
  obtain ⟨W, H, cell, kk, ws, rfl, rfl, rfl, rfl, rfl, hR, hk1, hk2, hw1, hw2, ho, hM⟩ := id h
  have hok : WHok W H := hR.1.1
  have hWH := WH_le hok
  rcases on_c hok x y with ⟨i, hi, a1, a2, a3, -⟩ | ⟨a1, a3, -⟩
  · have hi64 := onb_lt hok.2.2.2 hi
    have hc := ci_lt hok hi
    have eat : fX3_at x y (nI W) (nI H) gl = some (cell i) := by
      unfold fX3_at
      rw [a1, if_neg (by decide), a2, landOf_eq hR.2.1 hi64 (hR.1.2.2 i)]
      rfl
    have eci := mc_at hok hR.2.2 hi
    rcases hR.1.2.2 i with q | ⟨l, hl, q⟩
    · refine ⟨-1, ask, ask, pi, me, ?_, ?_, h⟩
      · unfold fX3_leaves
        rw [eat, q]
        rfl
      · unfold fX4_leaves
        rw [a3, if_neg (nI_pos (by omega)), if_pos (ix64 (by omega)), cl64 (by omega), eci, if_pos q]
    · obtain ⟨ek, hk⟩ := hk1 l hl
      obtain ⟨pi', me', ed4⟩ := doesLeave_eq (mo := mo) hR.1 hR.2.2 hk2 hc hl (by rw [fi_ci hok hi]; exact q) pi me
      have e3 := letsGo_eq (ow := ow) hR.1 hR.2.1 hl hi64 ek hk
      have eo := ho.iff hok hl hi
      rw [fi_ci hok hi, ← propext eo] at ed4
      have hL := tf_c (LV W H cell (kk l) (nI i = ow l) l i)
      refine ⟨tf (LV W H cell (kk l) (nI i = ow l) l i), ask + (fX3_bodiesAsked (nI (kk l))).toInt64, ask + (fX3_bodiesAsked (nI (kk l))).toInt64, pi', me', ?_, ?_, W, H, cell, kk, ws, rfl, rfl, rfl, rfl, rfl, hR, hk1, hk2, hw1, hw2, ho, hM⟩
      · unfold fX3_leaves
        rw [eat, q]
        simp only [Option.bind_some]
        rw [isLand_in hl, if_neg (by decide), if_pos (ix6 hl), a2, e3]
        simp only [Option.bind_some]
        rw [ans_tf, cl6 hl, ek]
      · unfold fX4_leaves
        rw [a3, if_neg (nI_pos (by omega)), if_pos (ix64 (by omega)), cl64 (by omega), eci, q, if_neg (sw_nI (by omega)), if_pos (ix64 (by omega)), if_pos (ix6 hl), cl6 hl, (hk2 l hl).1, bodies _ hk, ed4]
        unfold lt
        dsimp only
        simp only [Option.bind_some]
        rcases (show kk l = 0 ∨ kk l = 1 ∨ kk l = 2 by omega) with e | e | e
        · rw [e, if_pos (show nI 0 = 0 from rfl)]
          rw [e] at hL
          rcases hL with ⟨-, z⟩ | ⟨-, z⟩
          · rw [z, if_neg (by decide)]; rfl
          · rw [z, if_pos rfl]; rfl
        · rw [e, if_neg (show ¬ nI 1 = 0 by decide), if_pos (show nI 1 = 1 from rfl)]
          rw [e] at hL
          rcases hL with ⟨-, z⟩ | ⟨-, z⟩
          · rw [z, if_neg (by decide)]; rfl
          · rw [z, if_pos rfl]; rfl
        · rw [e, if_neg (show ¬ nI 2 = 0 by decide), if_neg (show ¬ nI 2 = 1 by decide)]
          rw [e] at hL
          rcases hL with ⟨-, z⟩ | ⟨-, z⟩
          · rw [z, if_neg (by decide)]; rfl
          · rw [z, if_pos rfl]; rfl
  · refine ⟨-1, ask, ask, pi, me, ?_, ?_, h⟩
    · unfold fX3_leaves fX3_at
      rw [a1, if_pos rfl]
      rfl
    · unfold fX4_leaves
      rw [a3, if_pos (by decide)]
/-- may a cell go, on both sides -/
theorem go_same {W H : Nat} {cell : Nat → Int32} {kk : Nat → Nat} (hR : RB W H cell gl ce) (hk1 : KK ki kk) (hk2 : KK mk kk) (ho : OWN W H ow mo) {i t : Nat} (hi : onb W H i) (ht : t < 6) (pi me : Nat → Int32) :
    ∃ P pi' me', (P → ∃ l, l < 6 ∧ cell i = nI l) ∧ fX3_canGo (nI i) (nI t) gl ki ow = some (tf P, gl) ∧ fX4_mayGo (nI (ci8 W i)) (nI t) (nI W) (nI H) ce mk mo pi me = some (tf P, ce, pi', me') := by
  have hok : WHok W H := hR.1.1
  obtain ⟨pi', me', e4⟩ := mayGo_eq (mo := mo) hR.1 hR.2.2 hk2 (ci_lt hok hi) ht pi me
  refine ⟨MG W H cell kk (fun l i => nI i = ow l) i t, pi', me', fun ⟨l, hl, e, _⟩ => ⟨l, hl, e⟩, canGo_eq hR.1 hR.2.1 hk1 (onb_lt hok.2.2.2 hi) ht, ?_⟩
  rw [e4, fi_ci hok hi, propext (MG_own hR.1 ho i t)]
theorem b_may (h : BoR B ask gw gh gl top kep don vc vf ki ow wa mw mh mke mnx mdo mtr ce mk mo mwa mmc mmf) (x y t : Int32) (pi me : Nat → Int32) :
    ∃ r pi' me', fX3_may x y t gw gh gl ki ow = some (r, gl) ∧ fX4_may x y t mw mh ce mk mo pi me = some (r, ce, pi', me') := by
  obtain ⟨W, H, cell, kk, ws, rfl, rfl, rfl, rfl, rfl, hR, hk1, hk2, hw1, hw2, ho, hM⟩ := id h
  have hok : WHok W H := hR.1.1
  have hWH := WH_le hok
  rcases on_c hok x y with ⟨i, hi, a1, a2, a3, -⟩ | ⟨a1, a3, -⟩
  · have hc := ci_lt hok hi
    rcases land_c t with ⟨l, hl, rfl, h1, h2⟩ | ⟨h0, h1, h2⟩
    · obtain ⟨P, pi', me', -, e3, e4⟩ := go_same hR hk1 hk2 ho hi hl pi me
      refine ⟨tf P, pi', me', ?_, ?_⟩
      · unfold fX3_may
        rw [a1, if_neg (by decide), h1, if_neg (by decide), a2, e3]
        simp only [Option.bind_some]
        rw [ans_tf]
      · unfold fX4_may
        rw [a3, if_neg (nI_pos (by omega)), h2, if_neg (by decide), e4]
        simp only [Option.bind_some]
        rcases tf_c P with ⟨-, z⟩ | ⟨-, z⟩
        · rw [z, if_neg (by decide)]
        · rw [z, if_pos rfl]
    · refine ⟨-1, pi, me, ?_, ?_⟩
      · unfold fX3_may; rw [a1, if_neg (by decide), h1, if_pos rfl]
      · unfold fX4_may; rw [a3, if_neg (nI_pos (by omega)), h2, if_pos rfl]
  · refine ⟨-1, pi, me, ?_, ?_⟩
    · unfold fX3_may; rw [a1, if_pos rfl]
    · unfold fX4_may; rw [a3, if_pos (by decide)]
theorem BoR.more {B' : Nat} (h : BoR B ask gw gh gl top kep don vc vf ki ow wa mw mh mke mnx mdo mtr ce mk mo mwa mmc mmf) (hB : B ≤ B') : BoR B' ask gw gh gl top kep don vc vf ki ow wa mw mh mke mnx mdo mtr ce mk mo mwa mmc mmf := by
  obtain ⟨W, H, cell, kk, ws, h1, h2, h3, h4, h5, hR, hk1, hk2, hw1, hw2, ho, hM⟩ := h
  exact ⟨W, H, cell, kk, ws, h1, h2, h3, h4, h5, hR, hk1, hk2, hw1, hw2, ho, hM.more hB⟩
theorem b_move (h : BoR B ask gw gh gl top kep don vc vf ki ow wa mw mh mke mnx mdo mtr ce mk mo mwa mmc mmf) (hB : B < 2 ^ 30) (x y t : Int32) (pi me : Nat → Int32) :
    ∃ r gl' top' kep' don' vc' vf' mke' mnx' mdo' ce' mmc' mmf' pi' me', fX3_move x y t gw gh gl top kep don vc vf ki ow = some (r, gl', top', kep', don', vc', vf') ∧ fX4_move x y t mw mh mke mnx mdo ce mk mo mmc mmf pi me = some (r, mke', mnx', mdo', ce', mmc', mmf', pi', me') ∧ BoR (B + 1) ask gw gh gl' top' kep' don' vc' vf' ki ow wa mw mh mke' mnx' mdo' mtr ce' mk mo mwa mmc' mmf' := by
  obtain ⟨W, H, cell, kk, ws, rfl, rfl, rfl, rfl, rfl, hR, hk1, hk2, hw1, hw2, ho, hM⟩ := id h
  have hok : WHok W H := hR.1.1
  have hWH := WH_le hok
  rcases on_c hok x y with ⟨i, hi, a1, a2, a3, -⟩ | ⟨a1, a3, -⟩
  · have hc := ci_lt hok hi
    have hi64 := onb_lt hok.2.2.2 hi
    rcases land_c t with ⟨l, hl, rfl, h1, h2⟩ | ⟨h0, h1, h2⟩
    · obtain ⟨P, pi', me', hP, e3, e4⟩ := go_same hR hk1 hk2 ho hi hl pi me
      rcases tf_c P with ⟨p, z⟩ | ⟨-, z⟩
      · obtain ⟨l0, hl0, e0⟩ := hP p
        obtain ⟨gl', top', kep', don', vc', vf', mke', mnx', mdo', mmc', mmf', g1, g2, g3, g4⟩ := go_both hR hB hM hi hl0 e0 hl
        refine ⟨cell i, gl', top', kep', don', vc', vf', mke', mnx', mdo', _, mmc', mmf', pi', me', ?_, ?_, W, H, _, kk, ws, rfl, rfl, rfl, rfl, rfl, g3, hk1, hk2, hw1, hw2, ho, g4⟩
        · unfold fX3_move
          rw [a1, if_neg (by decide), h1, if_neg (by decide), a2, e3]
          simp only [Option.bind_some]
          rw [z, if_neg (by decide), landOf_eq hR.2.1 hi64 (hR.1.2.2 i), g1]
          rfl
        · unfold fX4_move
          rw [a3, if_neg (nI_pos (by omega)), h2, if_neg (by decide), e4]
          simp only [Option.bind_some]
          rw [z, if_neg (by decide), if_pos (ix64 (by omega)), cl64 (by omega), g2, mc_at hok hR.2.2 hi]
          rfl
      · refine ⟨-2, gl, top, kep, don, vc, vf, mke, mnx, mdo, ce, mmc, mmf, pi', me', ?_, ?_, h.more (by omega)⟩
        · unfold fX3_move
          rw [a1, if_neg (by decide), h1, if_neg (by decide), a2, e3]
          simp only [Option.bind_some]
          rw [z, if_pos rfl]
        · unfold fX4_move
          rw [a3, if_neg (nI_pos (by omega)), h2, if_neg (by decide), e4]
          simp only [Option.bind_some]
          rw [z, if_pos rfl]
    · refine ⟨-1, gl, top, kep, don, vc, vf, mke, mnx, mdo, ce, mmc, mmf, pi, me, ?_, ?_, h.more (by omega)⟩
      · unfold fX3_move; rw [a1, if_neg (by decide), h1, if_pos rfl]
      · unfold fX4_move; rw [a3, if_neg (nI_pos (by omega)), h2, if_pos rfl]
  · refine ⟨-1, gl, top, kep, don, vc, vf, mke, mnx, mdo, ce, mmc, mmf, pi, me, ?_, ?_, h.more (by omega)⟩
    · unfold fX3_move; rw [a1, if_pos rfl]
    · unfold fX4_move; rw [a3, if_pos (by decide)]
theorem b_steps (h : BoR B ask gw gh gl top kep don vc vf ki ow wa mw mh mke mnx mdo mtr ce mk mo mwa mmc mmf) (hB : B + 64 < 2 ^ 30) (n : Int32) (pi me : Nat → Int32) :
    ∃ r gl' top' kep' don' vc' vf' mke' mnx' mdo' ce' mmc' mmf' pi' me', fX3_steps n gl top kep don vc vf ki ow wa = some (r, gl', top', kep', don', vc', vf') ∧ fX4_steps n mw mh mke mnx mdo ce mk mo mwa mmc mmf pi me = some (r, mke', mnx', mdo', ce', mmc', mmf', pi', me') ∧ BoR (B + 64) ask gw gh gl' top' kep' don' vc' vf' ki ow wa mw mh mke' mnx' mdo' mtr ce' mk mo mwa mmc' mmf' := by
  obtain ⟨W, H, cell, kk, ws, rfl, rfl, rfl, rfl, rfl, hR, hk1, hk2, hw1, hw2, ho, hM⟩ := id h
  by_cases n1 : n < 1
  · exact ⟨-1, gl, top, kep, don, vc, vf, mke, mnx, mdo, ce, mmc, mmf, pi, me, by unfold fX3_steps; rw [if_pos n1], by unfold fX4_steps; rw [in_no (Or.inl n1), if_pos rfl], h.more (by omega)⟩
  · by_cases n2 : (64 : Int32) < n
    · exact ⟨-1, gl, top, kep, don, vc, vf, mke, mnx, mdo, ce, mmc, mmf, pi, me, by unfold fX3_steps; rw [if_neg n1, if_neg (nlt_le n2)], by unfold fX4_steps; rw [in_no (Or.inr n2), if_pos rfl], h.more (by omega)⟩
    · have hin : fX4_in n 1 64 = 1 := in_yes n1 n2
      have hle := nl_le n2
      obtain ⟨N, N1, N2, rfl⟩ := nI_up1 (k := 64) (by decide) n1 n2
      have hF : FU = 10000 := rfl
      obtain ⟨r, cell', gl', top', kep', don', vc', vf', mke', mnx', mdo', ce', mmc', mmf', pi', me', g1, g2, g3, g4⟩ := steps_loops hk1 hk2 hw1 hw2 ho N2 N 0 B FU FU pi me (by omega) (by omega) (by omega) (by omega) hR hM
      refine ⟨r, gl', top', kep', don', vc', vf', mke', mnx', mdo', ce', mmc', mmf', pi', me', ?_, ?_, W, H, cell', kk, ws, rfl, rfl, rfl, rfl, rfl, g3, hk1, hk2, hw1, hw2, ho, g4.more (by omega)⟩
      · unfold fX3_steps
        rw [if_neg n1, if_pos hle, show (0 : Int32) = nI 0 from rfl, g1]
        rfl
      · unfold fX4_steps
        rw [hin, if_neg (by decide), show (0 : Int32) = nI 0 from rfl, g2]
        rfl
theorem undo_loops {W H N : Nat} (hN : N ≤ 100) : ∀ (d k F F' : Nat) {cell ce : Nat → Int32} {gl : Nat → Int64} {top kep mke mnx : Int32}, k + d = N → d < F → d < F' → B < 2 ^ 30 → RB W H cell gl ce → RMV W H B top kep don vc vf mke mnx mdo mmc mmf →
    ∃ r cell' gl' top' kep' mke' mnx' ce', wh (fX3_undo_15 (nI N) vc vf) F (nI k, gl, top, kep) = some (r, gl', top', kep') ∧ wh (fX4_undo_14 (nI N) mmc mmf) F' (nI k, mke, mnx, ce) = some (r, mke', mnx', ce') ∧ RB W H cell' gl' ce' ∧ RMV W H B top' kep' don vc vf mke' mnx' mdo mmc mmf := by
  intro d
  induction d with
  | zero =>
    intro k F F' cell ce gl top kep mke mnx hk hF hF' hB hR hM
    obtain ⟨F, rfl⟩ : ∃ z, F = z + 1 := ⟨F - 1, by omega⟩
    obtain ⟨F', rfl⟩ : ∃ z, F' = z + 1 := ⟨F' - 1, by omega⟩
    have : k = N := by omega
    subst this
    refine ⟨nI k, cell, gl, top, kep, mke, mnx, ce, wh_out ?_, wh_out ?_, hR, hM⟩
    · unfold fX3_undo_15; exact if_pos (Int32.le_refl _)
    · unfold fX4_undo_14; exact if_pos (Int32.le_refl _)
  | succ d ih =>
    intro k F F' cell ce gl top kep mke mnx hk hF hF' hB hR hM
    obtain ⟨F, rfl⟩ : ∃ z, F = z + 1 := ⟨F - 1, by omega⟩
    obtain ⟨F', rfl⟩ : ∃ z, F' = z + 1 := ⟨F' - 1, by omega⟩
    have hkN : ¬ nI N ≤ nI k := nI_ge (by omega) (by omega)
    obtain ⟨T, K, e1, e2, e3, e4, e5, e6, e7, e8, e9⟩ := id hM
    by_cases K0 : K = 0
    · refine ⟨nI k, cell, gl, top, kep, mke, mnx, ce, wh_out ?_, wh_out ?_, hR, hM⟩
      · unfold fX3_undo_15
        dsimp only
        rw [if_neg hkN, if_pos (by rw [e5, K0]; decide)]
      · unfold fX4_undo_14
        dsimp only
        rw [if_neg hkN, if_pos (by rw [e6, K0]; decide)]
    · subst e1; subst e5; subst e6; subst e7
      obtain ⟨i, t, hi, ht, g1, g2, g3, g4⟩ := e9 0 (by omega)
      rw [Nat.sub_zero] at g1 g2 g3 g4
      have hok : WHok W H := hR.1.1
      have hWH := WH_le hok
      have hc := ci_lt hok hi
      have hp : (T - 1) % 100 < 100 := Nat.mod_lt _ (by omega)
      have hKn : ¬ nI K ≤ 0 := nI_ge (b := K) (a := 0) (by omega) (by omega)
      have ek : nI K - (1 : Int32) = nI (K - 1) := pk_sub (b := 1) (by omega)
      have et : nI T - (1 : Int32) = nI (T - 1) := pk_sub (b := 1) (by omega)
      have en : ((nI (T % 100) + (100 : Int32)) - (1 : Int32)) - ((nI (T % 100) + (100 : Int32)) - (1 : Int32)) / (100 : Int32) * (100 : Int32) = nI ((T - 1) % 100) := by
        have e100 : (nI (T % 100) + (100 : Int32)) - (1 : Int32) = nI (T % 100 + 100 - 1) := by
          rw [show (100 : Int32) = nI 100 from rfl, nI_add]
          exact pk_sub (b := 1) (by omega)
        rw [e100, show (100 : Int32) = nI 100 from rfl, pk_rem (by omega) (by omega) (by omega)]
        congr 1; omega
      have hM' : RMV W H B (nI (T - 1)) (nI (K - 1)) don vc vf (nI (K - 1)) (nI ((T - 1) % 100)) mdo mmc mmf := by
        refine ⟨T - 1, K - 1, rfl, by omega, by omega, by omega, rfl, rfl, rfl, e8, fun j hj => ?_⟩
        have := e9 (j + 1) (by omega)
        rw [show T - 1 - (j + 1) = T - 1 - 1 - j by omega] at this
        exact this
      obtain ⟨r, cell2, gl2, top2, kep2, mke2, mnx2, ce2, q1, q2, q3, q4⟩ := ih (k + 1) F F' (by omega) (by omega) (by omega) hB (gone_upd hR hi (okv_l ht)) hM'
      refine ⟨r, cell2, gl2, top2, kep2, mke2, mnx2, ce2, ?_, ?_, q3, q4⟩
      · have x1 : fX3_undo_15 (nI N) vc vf (nI k, gl, nI T, nI K) = some (.inl (nI (k + 1), putf gl (fX3_bit (nI i)) (nI t) 6, nI (T - 1), nI (K - 1))) := by
          unfold fX3_undo_15 fX1_latestCell fX1_latestFrom fX1_dropLatest
          dsimp only
          rw [if_neg hkN, if_neg hKn, et, floorMod_eq (by omega)]
          simp only [Option.bind_some]
          rw [if_pos (ix100 hp), if_pos (ix100 hp), cl100 hp, g1, g3]
          simp only [Option.bind_some, put_eq, nI_1, ek]
        rw [wh_in x1]; exact q1
      · have x1 : fX4_undo_14 (nI N) mmc mmf (nI k, nI K, nI (T % 100), ce) = some (.inl (nI (k + 1), nI (K - 1), nI ((T - 1) % 100), upd ce (ci8 W i) (nI t))) := by
          unfold fX4_undo_14
          dsimp only
          rw [if_neg hkN, if_neg hKn, en, if_pos (ix100 hp), if_pos (ix100 hp), cl100 hp, g2, g4, if_pos (ix64 (by omega)), cl64 (by omega), nI_1, ek]
        rw [wh_in x1]; exact q2
theorem b_undo (h : BoR B ask gw gh gl top kep don vc vf ki ow wa mw mh mke mnx mdo mtr ce mk mo mwa mmc mmf) (hB : B < 2 ^ 30) (n : Int32) :
    ∃ r gl' top' kep' mke' mnx' ce', fX3_undo n gl top kep vc vf = some (r, gl', top', kep') ∧ fX4_undo n mke mnx ce mmc mmf = some (r, mke', mnx', ce') ∧ BoR B ask gw gh gl' top' kep' don vc vf ki ow wa mw mh mke' mnx' mdo mtr ce' mk mo mwa mmc mmf := by
  obtain ⟨W, H, cell, kk, ws, rfl, rfl, rfl, rfl, rfl, hR, hk1, hk2, hw1, hw2, ho, hM⟩ := id h
  by_cases n1 : n < 1
  · exact ⟨-1, gl, top, kep, mke, mnx, ce, by unfold fX3_undo; rw [if_pos n1], by unfold fX4_undo; rw [in_no (Or.inl n1), if_pos rfl], h⟩
  · by_cases n2 : (100 : Int32) < n
    · exact ⟨-1, gl, top, kep, mke, mnx, ce, by unfold fX3_undo; rw [if_neg n1, if_neg (nlt_le n2)], by unfold fX4_undo; rw [in_no (Or.inr n2), if_pos rfl], h⟩
    · have hin : fX4_in n 1 100 = 1 := in_yes n1 n2
      have hle := nl_le n2
      obtain ⟨N, N1, N2, rfl⟩ := nI_up1 (k := 100) (by decide) n1 n2
      have hF : FU = 10000 := rfl
      obtain ⟨r, cell', gl', top', kep', mke', mnx', ce', g1, g2, g3, g4⟩ := undo_loops (W := W) (H := H) N2 N 0 FU FU (by omega) (by omega) (by omega) hB hR hM
      refine ⟨r, gl', top', kep', mke', mnx', ce', ?_, ?_, W, H, cell', kk, ws, rfl, rfl, rfl, rfl, rfl, g3, hk1, hk2, hw1, hw2, ho, g4⟩
      · unfold fX3_undo
        rw [if_neg n1, if_pos hle, show (0 : Int32) = nI 0 from rfl, g1]
        rfl
      · unfold fX4_undo
        rw [hin, if_neg (by decide), show (0 : Int32) = nI 0 from rfl, g2]
        rfl
end CALLS2

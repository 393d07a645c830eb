/-! label: the model's sweeps, and both sides -/
def SW (W H : Nat) (S : Nat → Prop) (g0 : Nat → Nat) (ch : Int32) (de : Nat → Int32) (c w : Nat) : Prop := ∃ g, dN W H S de g ∧ ((ch = 1 ∧ dS g (W * H) < dS g0 (W * H)) ∨ (ch = 0 ∧ g = g0 ∧ ∀ c' w', c' < W * H → w' < 4 → (c' < c ∨ (c' = c ∧ w' < w)) → dC W H g0 c' w'))
theorem sweep_in {W H : Nat} {S : Nat → Prop} {g0 : Nat → Nat} (h : WHok W H) (hS : ∀ i, S i → onb W H i) {c : Nat} (hc : c < W * H) (q1 : Int32) (q2 : Nat → Int32) {ch : Int32} {de : Nat → Int32} (hs : SW W H S g0 ch de c 0) :
    ∃ t, wh (fX4_sound_69 (nI W) (nI H) (q1, nI c, q2)) FU (ch, nI 0, de) = some t ∧ SW W H S g0 t.1 t.2 (c + 1) 0 := by
  refine wh_inv (fun s => ∃ w, w ≤ 4 ∧ s.2.1 = nI w ∧ SW W H S g0 s.1 s.2.2 c w) (fun s => 4 - s.2.1.toNatClampNeg) (fun t : Int32 × (Nat → Int32) => SW W H S g0 t.1 t.2 (c + 1) 0) ?_ FU (ch, nI 0, de) ⟨0, by omega, rfl, hs⟩ (by show 4 - (nI 0).toNatClampNeg < FU; have : FU = 10000 := rfl; omega)
  rintro ⟨s1, s2, s3⟩ ⟨w, hw, e2, hs⟩
  dsimp only at e2 hs
  subst e2
  by_cases hw4 : w < 4
  · obtain ⟨g, hd, hcase⟩ := hs
    obtain ⟨ch', de', g', e, hd', hc'⟩ := sound_step h hS hd hc hw4 s1 q1 q2
    refine Or.inl ⟨(ch', nI (w + 1), de'), e, ⟨w + 1, by omega, rfl, g', hd', ?_⟩, by show 4 - (nI (w + 1)).toNatClampNeg < 4 - (nI w).toNatClampNeg; rw [nI_clamp (by omega), nI_clamp (by omega)]; omega⟩
    rcases hc' with ⟨r1, r2, r3⟩ | ⟨r1, r2⟩
    · subst r1; subst r2
      rcases hcase with ⟨p1, p2⟩ | ⟨p1, p2, p3⟩
      · exact Or.inl ⟨p1, p2⟩
      · refine Or.inr ⟨p1, p2, fun c' w' hc' hw' ho => ?_⟩
        by_cases q : c' = c ∧ w' = w
        · rw [q.1, q.2, ← p2]; exact r3
        · exact p3 c' w' hc' hw' (by omega)
    · refine Or.inl ⟨r1, ?_⟩
      rcases hcase with ⟨p1, p2⟩ | ⟨p1, p2, p3⟩
      · omega
      · rw [← p2]; exact r2
  · have : w = 4 := by omega
    subst this
    refine Or.inr ⟨(s1, s3), by unfold fX4_sound_69; exact if_pos g4, ?_⟩
    obtain ⟨g, hd, hcase⟩ := hs
    refine ⟨g, hd, ?_⟩
    rcases hcase with p | ⟨p1, p2, p3⟩
    · exact Or.inl p
    · exact Or.inr ⟨p1, p2, fun c' w' hc' hw' ho => p3 c' w' hc' hw' (by omega)⟩
theorem sweep {W H : Nat} {S : Nat → Prop} {g0 : Nat → Nat} (h : WHok W H) (hS : ∀ i, S i → onb W H i) {de : Nat → Int32} (hd : dN W H S de g0) :
    ∃ t, wh (fX4_sound_53 (nI W) (nI H)) FU ((0 : Int32), nI 0, de) = some t ∧ SW W H S g0 t.1 t.2 (W * H) 0 := by
  have hWH := WH_le h
  refine wh_inv (fun s => ∃ c, c ≤ W * H ∧ s.2.1 = nI c ∧ SW W H S g0 s.1 s.2.2 c 0) (fun s => W * H - s.2.1.toNatClampNeg) (fun t : Int32 × (Nat → Int32) => SW W H S g0 t.1 t.2 (W * H) 0) ?_ FU ((0 : Int32), nI 0, de) ⟨0, by omega, rfl, g0, hd, Or.inr ⟨rfl, rfl, fun c' w' _ _ ho => by omega⟩⟩ (by show W * H - (nI 0).toNatClampNeg < FU; have : FU = 10000 := rfl; omega)
  rintro ⟨s1, s2, s3⟩ ⟨c, hc, e2, hs⟩
  dsimp only at e2 hs
  subst e2
  by_cases hlt : c < W * H
  · obtain ⟨t, et, ht⟩ := sweep_in h hS hlt s1 s3 hs
    refine Or.inl ⟨(t.1, nI (c + 1), t.2), ?_, ⟨c + 1, by omega, rfl, ht⟩, by show W * H - (nI (c + 1)).toNatClampNeg < W * H - (nI c).toNatClampNeg; rw [nI_clamp (by omega), nI_clamp (by omega)]; omega⟩
    unfold fX4_sound_53
    dsimp only
    rw [mulWH, if_neg (nI_ge hlt (by omega)), show (0 : Int32) = nI 0 from rfl, et]
    simp only [Option.bind_some, nI_1]
  · have : c = W * H := by omega
    subst this
    refine Or.inr ⟨(s1, s3), ?_, hs⟩
    unfold fX4_sound_53
    dsimp only
    rw [mulWH, if_pos (Int32.le_refl _)]
theorem dS_cong {f g : Nat → Nat} : ∀ {n : Nat}, (∀ c, c < n → f c = g c) → dS f n = dS g n
  | 0, _ => rfl
  | n + 1, h => by
    show dS f n + f n = dS g n + g n
    rw [dS_cong (n := n) (fun c hc => h c (by omega)), h n (by omega)]
theorem sweeps {W H : Nat} {S : Nat → Prop} {g0 : Nat → Nat} (h : WHok W H) (hS : ∀ i, S i → onb W H i) {de : Nat → Int32} (hd : dN W H S de g0) :
    ∃ t, wh (fX4_sound_45 (nI W) (nI H)) FU ((1 : Int32), de) = some t ∧ ∃ g, dN W H S t g ∧ ∀ c w, c < W * H → w < 4 → dC W H g c w := by
  have hWH := WH_le h
  have hcl : ∀ {d : Nat → Int32} {g : Nat → Nat}, dN W H S d g → dS (fun c => (d c).toNatClampNeg) (W * H) = dS g (W * H) := by
    intro d g hd
    refine dS_cong (fun c hc => ?_)
    have := hd c hc
    rw [this.1, nI_clamp (by omega)]
  refine wh_inv (fun s => ∃ g, dN W H S s.2 g ∧ (s.1 = 1 ∨ (s.1 = 0 ∧ ∀ c w, c < W * H → w < 4 → dC W H g c w))) (fun s => (if s.1 = 0 then 0 else 1) + dS (fun c => (s.2 c).toNatClampNeg) (W * H)) (fun t => ∃ g, dN W H S t g ∧ ∀ c w, c < W * H → w < 4 → dC W H g c w) ?_ FU ((1 : Int32), de) ⟨g0, hd, Or.inl rfl⟩ ?_
  · rintro ⟨s1, s2⟩ ⟨g, hd, hs⟩
    dsimp only at hd hs
    rcases hs with rfl | ⟨rfl, hC⟩
    · obtain ⟨t, et, g', hd', ht⟩ := sweep h hS hd
      refine Or.inl ⟨(t.1, t.2), ?_, ?_, ?_⟩
      · unfold fX4_sound_45
        dsimp only
        rw [if_neg (by decide), show (0 : Int32) = nI 0 from rfl]
        rw [show (nI 0, nI 0, s2) = ((0 : Int32), nI 0, s2) from rfl, et]
        rfl
      · refine ⟨g', hd', ?_⟩
        rcases ht with ⟨p, -⟩ | ⟨p1, p2, p3⟩
        · exact Or.inl p
        · exact Or.inr ⟨p1, fun c w hc hw => by rw [p2]; exact p3 c w hc hw (by omega)⟩
      · show (if t.1 = 0 then 0 else 1) + dS (fun c => (t.2 c).toNatClampNeg) (W * H) < (if (1 : Int32) = 0 then 0 else 1) + dS (fun c => (s2 c).toNatClampNeg) (W * H)
        rw [hcl hd, hcl hd', if_neg (by decide : ¬ (1 : Int32) = 0)]
        rcases ht with ⟨p, p2⟩ | ⟨p1, p2, p3⟩
        · rw [p, if_neg (by decide)]; omega
        · rw [p1, if_pos rfl, p2]; omega
    · exact Or.inr ⟨s2, by unfold fX4_sound_45; exact if_pos rfl, g, hd, hC⟩
  · show (if (1 : Int32) = 0 then 0 else 1) + dS (fun c => (de c).toNatClampNeg) (W * H) < FU
    rw [hcl hd, if_neg (by decide)]
    have := dS_le (g := g0) (n := W * H) (fun c hc => (hd c hc).2.1)
    have : FU = 10000 := rfl
    omega
theorem sound_eq {W H : Nat} {ce : Nat → Int32} {cell : Nat → Int32} (hb : BD W H cell) (hm : MC W H cell ce) {l : Nat} (hl : l < 6) (mde : Nat → Int32) :
    ∃ de, fX4_sound (nI l) (nI W) (nI H) ce mde = some de ∧ ∃ g : Nat → Nat, ∀ c, c < W * H → de c = nI (g c) ∧ g c ≤ 100 ∧ ∀ k, (k < g c ↔ Er (fun i => cell i = nI l) k (fi W c)) := by
  have h := hb.1
  have hWH := WH_le h
  have hS : ∀ i, (fun i => cell i = nI l) i → onb W H i := fun i e => hb.on hl e
  have e2 : wh (fX4_sound_2 (nI l) (nI W) (nI H) ce) FU (nI 0, fun j => if j < 0 then (if ce j = nI l then 100 else 0) else mde j) = some (fun j => if j < W * H then (if ce j = nI l then 100 else 0) else mde j) := by
    refine wh_cnt (fun k => (nI k, fun j => if j < k then (if ce j = nI l then 100 else 0) else mde j)) (W * H) FU (fun k hk => ?_) ?_ (by unfold FU; omega)
    · have hup : ∀ v : Int32, v = (if ce k = nI l then 100 else 0) → upd (fun j => if j < k then (if ce j = nI l then 100 else 0) else mde j) k v = fun j => if j < k + 1 then (if ce j = nI l then 100 else 0) else mde j := by
        intro v hv
        funext j
        by_cases q : j = k
        · subst q; rw [pk_us, if_pos (by omega)]; exact hv
        · rw [pk_un q]
          by_cases q2 : j < k
          · rw [if_pos q2, if_pos (show j < k + 1 by omega)]
          · rw [if_neg q2, if_neg (show ¬ j < k + 1 by omega)]
      unfold fX4_sound_2
      dsimp only
      rw [mulWH, if_neg (nI_ge hk (by omega)), if_pos (ix64 (by omega)), cl64 (by omega), if_pos (ix64 (by omega)), if_pos (ix64 (by omega)), nI_1]
      by_cases q : ce k = nI l
      · rw [if_pos q, hup 100 (by rw [if_pos q])]
      · rw [if_neg q, hup 0 (by rw [if_neg q])]
    · unfold fX4_sound_2
      dsimp only
      rw [mulWH, if_pos (Int32.le_refl _)]
  have e0 : (fun j => if j < 0 then (if ce j = nI l then (100 : Int32) else 0) else mde j) = mde := funext fun j => if_neg (by omega)
  rw [e0] at e2
  have hd0 : dN W H (fun i => cell i = nI l) (fun j => if j < W * H then (if ce j = nI l then 100 else 0) else mde j) (fun c => if ce c = nI l then 100 else 0) := by
    intro c hc
    dsimp only
    rw [if_pos hc]
    have ec := hm c hc
    by_cases q : ce c = nI l
    · rw [if_pos q, if_pos q]
      exact ⟨rfl, by omega, fun k hk => by have := Er_3 hk; omega, fun z => absurd (ec ▸ q) z⟩
    · rw [if_neg q, if_neg q]
      exact ⟨rfl, by omega, fun k hk => absurd (ec.trans (Er_in hk)) q, fun _ => rfl⟩
  obtain ⟨t, et, g, hd, hC⟩ := sweeps h hS hd0
  refine ⟨t, ?_, g, fun c hc => ⟨(hd c hc).1, (hd c hc).2.1, ?_⟩⟩
  · unfold fX4_sound
    rw [show ((0 : Int32), mde) = (nI 0, mde) from rfl, e2]
    simp only [Option.bind_some]
    rw [et]
    rfl
  · intro k
    refine ⟨?_, (hd c hc).2.2.1 k⟩
    revert c
    induction k with
    | zero =>
      intro c hc hk
      exact Classical.byContradiction (fun z => by have := (hd c hc).2.2.2 z; omega)
    | succ k ih =>
      intro c hc hk
      refine (Er_bs h hS hc).mpr ⟨ih c hc (by omega), fun w hw => ?_⟩
      have hcw := hC c w hc hw
      unfold dC at hcw
      cases eb : bs W H c w with
      | none => rw [eb] at hcw; dsimp only at hcw; omega
      | some n => rw [eb] at hcw; dsimp only at hcw; exact ⟨n, rfl, ih n (bs_lt h hc eb).1 (by omega)⟩
theorem deepest {W H : Nat} {de : Nat → Int32} {g : Nat → Nat} (h : WHok W H) (hd : ∀ c, c < W * H → de c = nI (g c) ∧ g c ≤ 100) : ∃ b, wh (fX4_label_39 (nI W) (nI H) de) FU (nI 0, nI 1) = some (nI b) ∧ b < W * H ∧ (∀ c, c < W * H → g c ≤ g b) ∧ ∀ c, c < b → g c < g b := by
  have hWH := WH_le h
  have hWH1 : 1 ≤ W * H := Nat.mul_pos h.1 h.2.2.1
  obtain ⟨t, et, b, h1, h2⟩ := wh_inv (f := fX4_label_39 (nI W) (nI H) de) (fun s => ∃ b c, s.1 = nI b ∧ s.2 = nI c ∧ b < c ∧ c ≤ W * H ∧ (∀ k, k < c → g k ≤ g b) ∧ ∀ k, k < b → g k < g b) (fun s => W * H - s.2.toNatClampNeg) (fun t => ∃ b, t = nI b ∧ b < W * H ∧ (∀ c, c < W * H → g c ≤ g b) ∧ ∀ c, c < b → g c < g b) (by
    rintro ⟨s1, s2⟩ ⟨b, c, e1, e2, hbc, hc, hA, hB⟩
    dsimp only at e1 e2
    subst e1; subst e2
    by_cases hlt : c < W * H
    · have hm : W * H - (nI (c + 1)).toNatClampNeg < W * H - (nI c).toNatClampNeg := by rw [nI_clamp (by omega), nI_clamp (by omega)]; omega
      have hdc := hd c hlt
      have hdb := hd b (by omega)
      by_cases q : g c ≤ g b
      · refine Or.inl ⟨(nI b, nI (c + 1)), ?_, ⟨b, c + 1, rfl, rfl, by omega, by omega, fun k hk => ?_, hB⟩, hm⟩
        · unfold fX4_label_39
          dsimp only
          rw [mulWH, if_neg (nI_ge hlt (by omega)), if_pos (ix64 (by omega)), if_pos (ix64 (by omega)), cl64 (show c < 64 by omega), cl64 (show b < 64 by omega), if_pos (show de c ≤ de b by rw [hdc.1, hdb.1]; exact nI_le q (by omega)), nI_1]
        · by_cases z : k = c
          · rw [z]; exact q
          · exact hA k (by omega)
      · refine Or.inl ⟨(nI c, nI (c + 1)), ?_, ⟨c, c + 1, rfl, rfl, by omega, by omega, fun k hk => ?_, fun k hk => ?_⟩, hm⟩
        · unfold fX4_label_39
          dsimp only
          rw [mulWH, if_neg (nI_ge hlt (by omega)), if_pos (ix64 (by omega)), if_pos (ix64 (by omega)), cl64 (show c < 64 by omega), cl64 (show b < 64 by omega), if_neg (show ¬ de c ≤ de b by rw [hdc.1, hdb.1]; exact nI_ge (by omega) (by omega)), nI_1]
        · by_cases z : k = c
          · rw [z]; exact Nat.le_refl _
          · have := hA k (by omega); omega
        · have := hA k hk; omega
    · have : c = W * H := by omega
      subst this
      refine Or.inr ⟨nI b, ?_, b, rfl, hbc, hA, hB⟩
      unfold fX4_label_39
      dsimp only
      rw [mulWH, if_pos (Int32.le_refl _)]) FU (nI 0, nI 1) ⟨0, 1, rfl, rfl, by omega, hWH1, fun k hk => by rw [show k = 0 by omega]; exact Nat.le_refl _, fun k hk => by omega⟩ (by show W * H - (nI 1).toNatClampNeg < FU; have : FU = 10000 := rfl; omega)
  subst h1
  exact ⟨b, et, h2⟩
section LABEL
variable {B : Nat} {ask mtr : Int64} {gw gh top kep don mw mh mke mnx mdo : Int32} {gl : Nat → Int64} {vc vf ki ow wa ce mk mo mwa mmc mmf : Nat → Int32}
theorem b_label (h : BoR B ask gw gh gl top kep don vc vf ki ow wa mw mh mke mnx mdo mtr ce mk mo mwa mmc mmf) (x y : Int32) (mde : Nat → Int32) : ∃ r mde', fX3_label x y gl = some r ∧ fX4_label x y mw mh ce mde = some (r, mde') := by
  obtain ⟨W, H, cell, kk, ws, rfl, rfl, rfl, rfl, rfl, hR, hk1, hk2, hw1, hw2, ho, hM⟩ := h
  have hok : WHok W H := hR.1.1
  have hWH := WH_le hok
  rcases land_c x with ⟨l, hl, rfl, h1, h2⟩ | ⟨h0, h1, h2⟩
  · by_cases n0 : y < 0
    · exact ⟨-1, mde, by unfold fX3_label; rw [h1, if_neg (by decide), if_pos n0], by unfold fX4_label; rw [h2, if_neg (by decide), in_no (Or.inl n0), if_pos rfl]⟩
    · by_cases n2 : (2 : Int32) < y
      · exact ⟨-1, mde, by unfold fX3_label; rw [h1, if_neg (by decide), if_neg n0, if_neg (nlt_le n2)], by unfold fX4_label; rw [h2, if_neg (by decide), in_no (Or.inr n2), if_pos rfl]⟩
      · have hin : fX4_in y 0 2 = 1 := in_yes n0 n2
        have hle := nl_le n2
        by_cases hz : cnt cell l = 0
        · refine ⟨-9, mde, ?_, ?_⟩
          · unfold fX3_label
            rw [h1, if_neg (by decide), if_neg n0, if_pos hle, cellsOf_in hl]
            simp only [Option.bind_some]
            rw [if_pos (cmp0.mpr ((gl_0 hR.2.1 hl).mpr hz))]
          · unfold fX4_label
            rw [h2, if_neg (by decide), hin, if_neg (by decide), msize_l hR.1 hR.2.2 hl, hz]
            rfl
        · have hgl : ¬ gl l = 0 := fun z => hz ((gl_0 hR.2.1 hl).mp z)
          have hlt : ∀ i, (fun i => cell i = nI l) i → i < 64 := fun i e => hR.1.lt hl e
          obtain ⟨i0, hi0, b0⟩ := Bt_ne0.mp hgl
          obtain ⟨m, K, el, hK3, hm, ⟨iK, hiK⟩, hKn⟩ := label_loop (S := fun i => cell i = nI l) (x := gl l) hlt (fun i hi => hR.2.1 l hl i hi) ⟨i0, (hR.2.1 l hl i0 hi0).mp b0⟩
          obtain ⟨de, ed2, g, hg⟩ := sound_eq hR.1 hR.2.2 hl mde
          obtain ⟨b, eb, hb, hbm, hbf⟩ := deepest hok (fun c hc => ⟨(hg c hc).1, (hg c hc).2.1⟩)
          have on : ∀ {k i}, Er (fun i => cell i = nI l) k i → onb W H i := fun e => hR.1.on hl (Er_in (S := fun i => cell i = nI l) e)
          have hgb : g b = K + 1 := by
            have a1 : ¬ K + 1 < g b := fun z => hKn _ ((hg b hb).2.2 (K + 1) |>.mp z)
            have hc := ci_lt hok (on hiK)
            have a2 : K < g (ci8 W iK) := ((hg _ hc).2.2 K).mpr (by rw [fi_ci hok (on hiK)]; exact hiK)
            have a3 := hbm _ hc
            omega
          have hfb : Er (fun i => cell i = nI l) K (fi W b) := ((hg b hb).2.2 K).mp (by omega)
          have hfi := fi_lt hok hb
          have e1 := firstOf_eq (x := m) (a := fi W b) ((hm _ hfi).mpr hfb) (by
            intro j hj hB
            have hj64 : j < 64 := by omega
            have hE := (hm j hj64).mp hB
            have hc := ci_lt hok (on hE)
            have a2 : K < g (ci8 W j) := ((hg _ hc).2.2 K).mpr (by rw [fi_ci hok (on hE)]; exact hE)
            have a3 := hbf (ci8 W j) (by
              have := ci_mono hok (on hE) (fi_on hok hb) hj
              rw [ci_fi hok hb] at this
              exact this)
            omega)
          have hfl : fX3_label (nI l) y gl = (if y = 0 then (some (fX3_columnOf (nI (fi W b)))) else (if y = (1 : Int32) then (some (fX3_rowOf (nI (fi W b)))) else (some (nI (K + 1))))) := by
            unfold fX3_label
            rw [h1, if_neg (by decide), if_neg n0, if_pos hle, cellsOf_in hl]
            simp only [Option.bind_some]
            rw [if_neg (fun z => hgl (cmp0.mp z)), show ((gl l, (1 : Int32), (0 : Int32)) : Int64 × Int32 × Int32) = (gl l, nI 1, nI 0) from rfl, el]
            simp only [Option.bind_some]
            rw [e1]
            rfl
          have hml : fX4_label (nI l) y (nI W) (nI H) ce mde = (if y = 0 then (if nI W = 0 then none else (some ((nI b - nI b / nI W * nI W), de))) else (if y = (1 : Int32) then (if nI W = 0 then none else (some ((nI b / nI W), de))) else (if ix (nI b) 64 = true then (some ((de (nI b).toNatClampNeg), de)) else none))) := by
            unfold fX4_label
            rw [h2, if_neg (by decide), hin, if_neg (by decide), msize_l hR.1 hR.2.2 hl]
            simp only [Option.bind_some]
            rw [if_neg (nI_ne0 (by omega) (by have := cnt_le cell l; omega)), ed2]
            simp only [Option.bind_some]
            rw [show ((0 : Int32), (1 : Int32)) = (nI 0, nI 1) from rfl, eb]
            rfl
          have hW0 : ¬ nI W = 0 := nI_ne0 (by have := hok.1; omega) (by have := hok.2.1; omega)
          have f8 : fi W b % 8 = b % W ∧ fi W b / 8 = b / W := by
            have hr : b % W < W := Nat.mod_lt _ hok.1
            have := hok.2.1
            unfold fi
            omega
          rw [hfl, hml]
          by_cases y0 : y = 0
          · refine ⟨nI (b % W), de, ?_, ?_⟩
            · rw [if_pos y0]
              unfold fX3_columnOf
              rw [show (8 : Int32) = nI 8 from rfl, ← f8.1]
              exact congrArg some (pk_rem (by omega) (by omega) (by omega))
            · rw [if_pos y0, if_neg hW0]
              exact congrArg (fun z => some (z, de)) (pk_rem (by omega) (by have := hok.1; omega) (by have := hok.2.1; omega))
          · by_cases y1 : y = 1
            · refine ⟨nI (b / W), de, ?_, ?_⟩
              · rw [if_neg y0, if_pos y1]
                unfold fX3_rowOf
                rw [show (8 : Int32) = nI 8 from rfl, ← f8.2]
                exact congrArg some (pk_div (by omega) (by omega) (by omega))
              · rw [if_neg y0, if_pos y1, if_neg hW0]
                exact congrArg (fun z => some (z, de)) (pk_div (by omega) (by have := hok.1; omega) (by have := hok.2.1; omega))
            · refine ⟨nI (K + 1), de, ?_, ?_⟩
              · rw [if_neg y0, if_neg y1]
              · rw [if_neg y0, if_neg y1, if_pos (ix64 (by omega)), cl64 (by omega), (hg b hb).1, hgb]
  · exact ⟨-1, mde, by unfold fX3_label; rw [h1, if_pos rfl], by unfold fX4_label; rw [h2, if_pos rfl]⟩
end LABEL

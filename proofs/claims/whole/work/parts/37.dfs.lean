/-! the model: how many cells, and whether they hang together -/
def MC (W H : Nat) (cell : Nat → Int32) (ce : Nat → Int32) : Prop := ∀ c, c < W * H → ce c = cell (fi W c)
theorem nI_z (k : Nat) : nI k + (0 : Int32) = nI k := nI_add k 0
theorem n4 {k : Nat} (h : k < 4) : ¬ (4 : Int32) ≤ nI k := nI_ge h (by decide)
theorem g4 : (4 : Int32) ≤ nI 4 := by decide
theorem mulWH {W H : Nat} : nI W * nI H = nI (W * H) := pk_mul W H
theorem ix64 {k : Nat} (h : k < 64) : ix (nI k) 64 = true := by rw [ix_nI (by omega)]; exact h
theorem cl64 {k : Nat} (h : k < 64) : (nI k).toNatClampNeg = k := nI_clamp (by omega)
theorem row_ct {W : Nat} (hW : W ≤ 8) (q : Nat → Bool) (H : Nat) (hH : H < 8) : fb_ct (fun i => (decide (i / 8 = H) && decide (i % 8 < W)) && q i) 64 = fb_ct (fun k => q (k + 8 * H)) W := by
  have e : 64 = 8 * H + (W + (64 - 8 * H - W)) := by omega
  rw [e, fb_ct_split, fb_ct_split]
  have z1 : fb_ct (fun i => (decide (i / 8 = H) && decide (i % 8 < W)) && q i) (8 * H) = 0 := fb_ct_zero.mpr (fun k hk => by
    have : ¬ k / 8 = H := by omega
    simp [this])
  have z2 : fb_ct (fun k => (fun k => (fun i => (decide (i / 8 = H) && decide (i % 8 < W)) && q i) (8 * H + k)) (W + k)) (64 - 8 * H - W) = 0 := fb_ct_zero.mpr (fun k hk => by
    have : ¬ ((8 * H + (W + k)) / 8 = H ∧ (8 * H + (W + k)) % 8 < W) := by omega
    show ((decide ((8 * H + (W + k)) / 8 = H) && decide ((8 * H + (W + k)) % 8 < W)) && q (8 * H + (W + k))) = false
    rw [← Bool.decide_and, decide_eq_false this]; rfl)
  rw [z1, z2, Nat.zero_add, Nat.add_zero]
  exact fb_ct_cong (fun k hk => by
    have : (8 * H + k) / 8 = H ∧ (8 * H + k) % 8 < W := by omega
    show ((decide ((8 * H + k) / 8 = H) && decide ((8 * H + k) % 8 < W)) && q (8 * H + k)) = q (k + 8 * H)
    rw [← Bool.decide_and, decide_eq_true this, Nat.add_comm]; rfl)
theorem fi_row {W H k : Nat} (h1 : 1 ≤ W) (h2 : W ≤ 8) (hk : k < W) : fi W (W * H + k) = k + 8 * H := by
  unfold fi
  rcases W8 h1 h2 with rfl | rfl | rfl | rfl | rfl | rfl | rfl | rfl <;> omega
/-- counting the model's cells is counting the cells on the board -/
theorem ct_fi {W : Nat} (h1 : 1 ≤ W) (h2 : W ≤ 8) (q : Nat → Bool) : ∀ H, H ≤ 8 → fb_ct (fun c => q (fi W c)) (W * H) = fb_ct (fun i => (decide (i % 8 < W) && decide (i / 8 < H)) && q i) 64 := by
  intro H
  induction H with
  | zero =>
    intro _
    rw [Nat.mul_zero]
    exact (fb_ct_zero.mpr (fun k hk => by simp)).symm
  | succ H ih =>
    intro hH
    rw [Nat.mul_add, Nat.mul_one, fb_ct_split, ih (by omega), show fb_ct (fun k => (fun c => q (fi W c)) (W * H + k)) W = fb_ct (fun k => q (k + 8 * H)) W from fb_ct_cong (fun k hk => by show q (fi W (W * H + k)) = _; rw [fi_row h1 h2 hk]), ← row_ct h2 q H (by omega), ← fb_ct_or (fun k hk => by
      rintro ⟨a, b⟩
      simp only [Bool.and_eq_true, decide_eq_true_iff] at a b
      omega)]
    exact fb_ct_cong (fun k hk => by
      by_cases e : k % 8 < W
      · by_cases e2 : k / 8 = H
        · have a1 : ¬ k / 8 < H := by omega
          have a2 : k / 8 < H + 1 := by omega
          simp [e, e2, a2]
        · have a1 : (k / 8 < H + 1) = (k / 8 < H) := propext (by omega)
          simp [e, e2, a1]
      · simp [e])
theorem ct_MC {W H : Nat} {cell ce : Nat → Int32} (h : WHok W H) (hm : MC W H cell ce) (p : Int32 → Bool) : fb_ct (fun c => p (ce c)) (W * H) = fb_ct (fun i => (decide (i % 8 < W) && decide (i / 8 < H)) && p (cell i)) 64 := by
  rw [← ct_fi h.1 h.2.1 (fun i => p (cell i)) H h.2.2.2]
  exact fb_ct_cong (fun c hc => by show p (ce c) = p (cell (fi W c)); rw [hm c hc])
theorem msize_eq {W H : Nat} {ce : Nat → Int32} (h : WHok W H) (v : Int32) : fX4_sizeOf v (nI W) (nI H) ce = some (nI (fb_ct (fun c => decide (ce c = v)) (W * H))) := by
  have hWH := WH_le h
  have e : wh (fX4_sizeOf_4 v (nI W) (nI H) ce) FU (nI (fb_ct (fun c => decide (ce c = v)) 0), nI 0) = some (nI (fb_ct (fun c => decide (ce c = v)) (W * H))) := by
    refine wh_cnt (fun k => (nI (fb_ct (fun c => decide (ce c = v)) k), nI k)) (W * H) FU (fun k hk => ?_) ?_ (by unfold FU; omega)
    · unfold fX4_sizeOf_4
      dsimp only
      rw [mulWH, if_neg (nI_ge hk (by omega)), if_pos (ix64 (by omega)), cl64 (by omega)]
      simp only [nI_1, nI_z]
      show _ = some (Sum.inl (nI (fb_ct (fun c => decide (ce c = v)) k + (if decide (ce k = v) then 1 else 0)), nI (k + 1)))
      by_cases q : ce k = v
      · rw [if_pos q, if_pos (by simp [q])]
      · rw [if_neg q, if_neg (by simp [q])]; rfl
    · unfold fX4_sizeOf_4
      dsimp only
      rw [mulWH, if_pos (nI_le (Nat.le_refl _) (by omega))]
  show (wh (fX4_sizeOf_4 v (nI W) (nI H) ce) FU (nI (fb_ct (fun c => decide (ce c = v)) 0), nI 0)).bind _ = _
  rw [e]; rfl
theorem msize_l {W H : Nat} {cell ce : Nat → Int32} (hb : BD W H cell) (hm : MC W H cell ce) {l : Nat} (hl : l < 6) : fX4_sizeOf (nI l) (nI W) (nI H) ce = some (nI (cnt cell l)) := by
  rw [msize_eq hb.1, ct_MC hb.1 hm (fun x => decide (x = nI l))]
  congr 2
  exact fb_ct_cong (fun i hi => by
    by_cases e : cell i = nI l
    · have ho := hb.on hl e
      simp [e, ho.1, ho.2]
    · simp [e])
-- the pile: cells that are met and whose neighbours aren't looked at yet
theorem clr_eq (f : Nat → Int32) : wh fX4_isWhole_48 FU (nI 0, f) = some (fun j => if j < 64 then 0 else f j) := by
  have e : wh fX4_isWhole_48 FU (nI 0, fun j => if j < 0 then 0 else f j) = some (fun j => if j < 64 then 0 else f j) := by
    refine wh_cnt (fun k => (nI k, fun j => if j < k then 0 else f j)) 64 FU (fun k hk => ?_) ?_ (by unfold FU; omega)
    · unfold fX4_isWhole_48
      dsimp only
      rw [if_neg (n64 hk), if_pos (ix64 hk), cl64 hk, nI_1]
      refine congrArg (fun z => some (Sum.inl (nI (k + 1), z))) (funext fun j => ?_)
      unfold upd
      by_cases hj : j = k
      · subst hj; simp
      · have : (j < k + 1) = (j < k) := propext (by omega)
        simp [hj, this]
    · unfold fX4_isWhole_48
      exact if_pos g64
  have e0 : (fun j => if j < 0 then 0 else f j) = f := funext fun j => by simp
  rw [e0] at e
  exact e
theorem first_eq {W H : Nat} {ce : Nat → Int32} (h : WHok W H) (v : Int32) : ∃ a, wh (fX4_isWhole_2 v (nI W) (nI H) ce) FU (nI 0) = some (nI a) ∧ a ≤ W * H ∧ (∀ c, c < a → ¬ ce c = v) ∧ (a < W * H → ce a = v) := by
  have hWH := WH_le h
  have step : ∀ k, k < W * H → fX4_isWhole_2 v (nI W) (nI H) ce (nI k) = if ce k = v then some (.inr (nI k)) else some (.inl (nI (k + 1))) := by
    intro k hk
    unfold fX4_isWhole_2
    rw [mulWH, if_neg (nI_ge hk (by omega)), if_pos (ix64 (by omega)), cl64 (by omega), nI_1]
  by_cases hex : ∃ c, c < W * H ∧ ce c = v
  · obtain ⟨a, ⟨ha1, ha2⟩, hmin⟩ := pk_least (fun c => c < W * H ∧ ce c = v) hex
    refine ⟨a, ?_, by omega, fun c hc e => hmin c hc ⟨by omega, e⟩, fun _ => ha2⟩
    exact wh_cnt (fun k => nI k) a FU (fun k hk => by rw [step k (by omega), if_neg (fun e => hmin k hk ⟨by omega, e⟩)]) (by rw [step a ha1, if_pos ha2]) (by unfold FU; omega)
  · refine ⟨W * H, ?_, Nat.le_refl _, fun c hc e => hex ⟨c, hc, e⟩, fun h => by omega⟩
    exact wh_cnt (fun k => nI k) (W * H) FU (fun k hk => by rw [step k hk, if_neg (fun e => hex ⟨k, hk, e⟩)]) (by unfold fX4_isWhole_2; rw [mulWH, if_pos (nI_le (Nat.le_refl _) (by omega))]) (by unfold FU; omega)
/-- what holds of the pile (n cells) and of the cells that are met (m of them) -/
def DJ (W H : Nat) (ce : Nat → Int32) (v : Int32) (S : Nat → Prop) (a n m : Nat) (pile met : Nat → Int32) (busy : Nat → Prop) : Prop :=
  (∀ k, k < n → ∃ q, q < W * H ∧ pile k = nI q ∧ met q = 1) ∧ (∀ c, c < W * H → met c = 0 ∨ met c = 1) ∧ (∀ c, c < W * H → met c = 1 → ce c = v ∧ Reach S (fi W a) (fi W c)) ∧ met a = 1 ∧ m = fb_ct (fun c => decide (met c = 1)) (W * H) ∧ n ≤ m ∧
  ∀ c, c < W * H → met c = 1 → (∃ k, k < n ∧ pile k = nI c) ∨ busy c ∨ ∀ c' way, way < 4 → bs W H c way = some c' → ce c' = v → met c' = 1
theorem dfs_in {W H : Nat} {ce : Nat → Int32} {v : Int32} {S : Nat → Prop} {a : Nat} (h : WHok W H) (hS : ∀ c, c < W * H → ce c = v → S (fi W c)) {n m c : Nat} {pile met : Nat → Int32} {s86 : Int32 × Int32 × (Nat → Int32) × (Nat → Int32)} (hc : c < W * H) (hcm : met c = 1) (hs : s86.2.2.1 ((s86.1 + (-1))).toNatClampNeg = nI c) (hJ : DJ W H ce v S a n m pile met (fun x => x = c)) :
    ∃ t, wh (fX4_isWhole_104 v (nI W) (nI H) ce s86) FU (nI n, nI m, nI 0, pile, met) = some t ∧ ∃ n' m', t.1 = nI n' ∧ t.2.1 = nI m' ∧ DJ W H ce v S a n' m' t.2.2.1 t.2.2.2 (fun _ => False) ∧ n' + m = n + m' ∧ m ≤ m' := by
  have hWH := WH_le h
  refine wh_inv (fun s => ∃ n' m' w, s.1 = nI n' ∧ s.2.1 = nI m' ∧ s.2.2.1 = nI w ∧ w ≤ 4 ∧ DJ W H ce v S a n' m' s.2.2.2.1 s.2.2.2.2 (fun x => x = c) ∧ s.2.2.2.2 c = 1 ∧ (∀ w' c', w' < w → bs W H c w' = some c' → ce c' = v → s.2.2.2.2 c' = 1) ∧ n' + m = n + m' ∧ m ≤ m') (fun s => 4 - s.2.2.1.toNatClampNeg) _ ?_ FU _ ⟨n, m, 0, rfl, rfl, rfl, by omega, hJ, hcm, fun w' c' hw => by omega, rfl, Nat.le_refl _⟩ (by show 4 - (nI 0).toNatClampNeg < FU; have : FU = 10000 := rfl; omega)
  rintro ⟨x1, x2, x3, pl, mt⟩ ⟨n', m', w, e1, e2, e3, hw, hD, hcm', hway, hnm, hmm⟩
  dsimp only at e1 e2 e3 hD hcm' hway
  subst e1; subst e2; subst e3
  obtain ⟨d1, d2, d3, d4, d5, d6, d7⟩ := hD
  have hm64 : m' ≤ 64 := by rw [d5]; exact Nat.le_trans (fb_ct_le _ _) hWH
  by_cases hw4 : w < 4
  · have hmeas : 4 - (nI (w + 1)).toNatClampNeg < 4 - (nI w).toNatClampNeg := by rw [nI_clamp (by omega), nI_clamp (by omega)]; omega
    -- the cell beside is none, is of another land, is met: nothing but the way changes
    have same : (∀ c', bs W H c w = some c' → ce c' = v → mt c' = 1) → ∃ n'_1 m'_1 w_1, (nI n', nI m', nI (w + 1), pl, mt).1 = nI n'_1 ∧ (nI n', nI m', nI (w + 1), pl, mt).2.1 = nI m'_1 ∧ (nI n', nI m', nI (w + 1), pl, mt).2.2.1 = nI w_1 ∧ w_1 ≤ 4 ∧ DJ W H ce v S a n'_1 m'_1 pl mt (fun x => x = c) ∧ mt c = 1 ∧ (∀ w' c', w' < w_1 → bs W H c w' = some c' → ce c' = v → mt c' = 1) ∧ n'_1 + m = n + m'_1 ∧ m ≤ m'_1 := by
      intro hn
      refine ⟨n', m', w + 1, rfl, rfl, rfl, by omega, ⟨d1, d2, d3, d4, d5, d6, d7⟩, hcm', fun w' c' hw' hb hv => ?_, hnm, hmm⟩
      by_cases e : w' = w
      · subst e; exact hn c' hb hv
      · exact hway w' c' (by omega) hb hv
    cases hb : bs W H c w with
    | none =>
      have ev : fX4_isWhole_104 v (nI W) (nI H) ce s86 (nI n', nI m', nI w, pl, mt) = some (Sum.inl (nI n', nI m', nI (w + 1), pl, mt)) := by
        unfold fX4_isWhole_104
        dsimp only
        rw [if_neg (n4 hw4), hs, beside_eq h hc hw4, hb]
        simp only [Option.bind_some, nI_1]
        rw [if_pos (show oI none < 0 by decide)]
      exact Or.inl ⟨_, ev, same (fun c' hb' => by rw [hb] at hb'; cases hb'), hmeas⟩
    | some c' =>
      obtain ⟨hc', hn'⟩ := bs_lt h hc hb
      have hc64 : c' < 64 := by omega
      by_cases hv : ce c' = v
      · rcases d2 c' hc' with hm0 | hm1
        · have hlt : m' < 64 := by
            have : fb_ct (fun c => decide (mt c = 1)) (W * H) < fb_ct (fun _ => true) (W * H) := ct_lt (fun _ _ _ => rfl) ⟨c', hc', rfl, by simp [hm0]⟩
            have h2 := fb_ct_le (fun _ => true) (W * H)
            omega
          have hn64 : n' < 64 := by omega
          have ev : fX4_isWhole_104 v (nI W) (nI H) ce s86 (nI n', nI m', nI w, pl, mt) = some (Sum.inl (nI (n' + 1), nI (m' + 1), nI (w + 1), upd pl n' (nI c'), upd mt c' 1)) := by
            unfold fX4_isWhole_104
            dsimp only
            rw [if_neg (n4 hw4), hs, beside_eq h hc hw4, hb]
            simp only [Option.bind_some, show oI (some c') = nI c' from rfl, nI_1]
            rw [if_neg (nI_pos (by omega)), if_pos (ix64 hc64), cl64 hc64, if_pos hv, if_pos (ix64 hc64), if_pos hm0, if_pos (ix64 hc64), if_pos (ix64 hn64), cl64 hn64]
          have hne : ∀ x, mt x = 1 → x ≠ c' := fun x hx e => by subst e; rw [hm0] at hx; cases hx
          refine Or.inl ⟨(nI (n' + 1), nI (m' + 1), nI (w + 1), upd pl n' (nI c'), upd mt c' 1), ev, ⟨n' + 1, m' + 1, w + 1, rfl, rfl, rfl, by omega, ⟨?_, ?_, ?_, ?_, ?_, by omega, ?_⟩, ?_, ?_, by omega, by omega⟩, hmeas⟩
          · intro k hk
            by_cases e : k = n'
            · subst e; exact ⟨c', hc', pk_us, pk_us⟩
            · obtain ⟨q, q1, q2, q3⟩ := d1 k (by omega)
              exact ⟨q, q1, by show upd pl n' (nI c') k = _; rw [pk_un e]; exact q2, by show upd mt c' 1 q = _; rw [pk_un (hne q q3)]; exact q3⟩
          · intro x hx
            show upd mt c' 1 x = 0 ∨ upd mt c' 1 x = 1
            by_cases e : x = c'
            · subst e; exact Or.inr pk_us
            · rw [pk_un e]; exact d2 x hx
          · intro x hx hx1
            have hx1 : upd mt c' 1 x = 1 := hx1
            by_cases e : x = c'
            · subst e; exact ⟨hv, (d3 c hc hcm').2.step hn' (hS x hx hv)⟩
            · rw [pk_un e] at hx1; exact d3 x hx hx1
          · show upd mt c' 1 a = 1
            by_cases e : a = c'
            · subst e; exact pk_us
            · rw [pk_un e]; exact d4
          · show m' + 1 = fb_ct (fun c => decide (upd mt c' 1 c = 1)) (W * H)
            have e : fb_ct (fun k => if k = c' then true else decide (mt k = 1)) (W * H) + (if decide (mt c' = 1) = true then 1 else 0) = fb_ct (fun c => decide (mt c = 1)) (W * H) + (if true = true then 1 else 0) := fb_ct_upd (fun c => decide (mt c = 1)) true (i := c') (n := W * H) hc'
            rw [decide_eq_false (by rw [hm0]; decide), if_neg (by decide), if_pos rfl, ← d5] at e
            rw [show fb_ct (fun c => decide (upd mt c' 1 c = 1)) (W * H) = fb_ct (fun k => if k = c' then true else decide (mt k = 1)) (W * H) from fb_ct_cong (fun k hk => by
              unfold upd
              by_cases z : k = c' <;> simp [z])]
            omega
          · intro x hx hx1
            have hx1 : upd mt c' 1 x = 1 := hx1
            by_cases e : x = c'
            · subst e; exact Or.inl ⟨n', by omega, pk_us⟩
            · rw [pk_un e] at hx1
              rcases d7 x hx hx1 with ⟨k, k1, k2⟩ | hbz | hcl
              · exact Or.inl ⟨k, by omega, by show upd pl n' (nI c') k = _; rw [pk_un (by omega)]; exact k2⟩
              · exact Or.inr (Or.inl hbz)
              · refine Or.inr (Or.inr (fun y way g1 g2 g3 => ?_))
                show upd mt c' 1 y = 1
                by_cases e2 : y = c'
                · subst e2; exact pk_us
                · rw [pk_un e2]; exact hcl y way g1 g2 g3
          · show upd mt c' 1 c = 1
            rw [pk_un (hne c hcm')]; exact hcm'
          · intro w' y hw' hb' hv'
            show upd mt c' 1 y = 1
            by_cases e2 : y = c'
            · subst e2; exact pk_us
            · rw [pk_un e2]
              by_cases e3 : w' = w
              · subst e3; rw [hb] at hb'; cases hb'; exact absurd rfl e2
              · exact hway w' y (by omega) hb' hv'
        · have ev : fX4_isWhole_104 v (nI W) (nI H) ce s86 (nI n', nI m', nI w, pl, mt) = some (Sum.inl (nI n', nI m', nI (w + 1), pl, mt)) := by
            unfold fX4_isWhole_104
            dsimp only
            rw [if_neg (n4 hw4), hs, beside_eq h hc hw4, hb]
            simp only [Option.bind_some, show oI (some c') = nI c' from rfl, nI_1]
            rw [if_neg (nI_pos (by omega)), if_pos (ix64 hc64), cl64 hc64, if_pos hv, if_pos (ix64 hc64), if_neg (by rw [hm1]; decide)]
          exact Or.inl ⟨_, ev, same (fun y hy _ => by rw [hb] at hy; cases hy; exact hm1), hmeas⟩
      · have ev : fX4_isWhole_104 v (nI W) (nI H) ce s86 (nI n', nI m', nI w, pl, mt) = some (Sum.inl (nI n', nI m', nI (w + 1), pl, mt)) := by
          unfold fX4_isWhole_104
          dsimp only
          rw [if_neg (n4 hw4), hs, beside_eq h hc hw4, hb]
          simp only [Option.bind_some, show oI (some c') = nI c' from rfl, nI_1]
          rw [if_neg (nI_pos (by omega)), if_pos (ix64 hc64), cl64 hc64, if_neg hv]
        exact Or.inl ⟨_, ev, same (fun y hy hvy => by rw [hb] at hy; cases hy; exact absurd hvy hv), hmeas⟩
  · have : w = 4 := by omega
    subst this
    refine Or.inr ⟨_, by unfold fX4_isWhole_104; exact if_pos g4, n', m', rfl, rfl, ⟨d1, d2, d3, d4, d5, d6, fun x hx hx1 => ?_⟩, hnm, hmm⟩
    rcases d7 x hx hx1 with hp | hbz | hcl
    · exact Or.inl hp
    · subst hbz
      exact Or.inr (Or.inr (fun y way g1 g2 g3 => hway way y g1 g2 g3))
    · exact Or.inr (Or.inr hcl)

/-! the model's isWhole, by the pile -/
theorem mwhole_eq {W H : Nat} {cell ce : Nat → Int32} (h : WHok W H) (hm : MC W H cell ce) (v : Int32) (pi me : Nat → Int32) : ∃ pi' me', fX4_isWhole v (nI W) (nI H) ce pi me = some (tf (Whole (fun i => onb W H i ∧ cell i = v)), pi', me') := by
  have hWH := WH_le h
  obtain ⟨a, ea, ha, hmin, hav⟩ := first_eq h v (ce := ce)
  unfold fX4_isWhole
  rw [show (0 : Int32) = nI 0 from rfl, ea]
  simp only [Option.bind_some, mulWH]
  let S : Nat → Prop := fun i => onb W H i ∧ cell i = v
  have hS : ∀ c, c < W * H → ce c = v → S (fi W c) := fun c hc e => ⟨fi_on h hc, by rw [← hm c hc]; exact e⟩
  have hS2 : ∀ i, S i → ce (ci8 W i) = v := fun i hi => by rw [hm _ (ci_lt h hi.1), fi_ci h hi.1]; exact hi.2
  by_cases hlt : a < W * H
  · rw [if_neg (fun e => by rw [nI_eq (by omega) (by omega)] at e; omega), clr_eq]
    simp only [Option.bind_some]
    rw [if_pos (ix64 (by omega)), cl64 (show a < 64 by omega), show (nI 0).toNatClampNeg = 0 from rfl]
    have hJ0 : DJ W H ce v S a 1 1 (upd pi 0 (nI a)) (upd (fun j => if j < 64 then 0 else me j) a 1) (fun _ => False) := by
      refine ⟨fun k hk => ⟨a, hlt, by rw [show k = 0 by omega]; exact pk_us, pk_us⟩, fun c hc => ?_, fun c hc e => ?_, pk_us, ?_, Nat.le_refl _, fun c hc e => ?_⟩
      · by_cases q : c = a
        · subst q; exact Or.inr pk_us
        · rw [pk_un q]; exact Or.inl (if_pos (by omega))
      · by_cases q : c = a
        · subst q; exact ⟨hav hlt, Reach.self⟩
        · rw [pk_un q, if_pos (show c < 64 by omega)] at e; cases e
      · have e : fb_ct (fun k => if k = a then true else false) (W * H) + (if false = true then 1 else 0) = fb_ct (fun _ => false) (W * H) + (if true = true then 1 else 0) := fb_ct_upd (fun _ => false) true (i := a) (n := W * H) hlt
        rw [if_neg (by decide), if_pos rfl, fb_ct_zero.mpr (fun _ _ => rfl)] at e
        rw [show fb_ct (fun c => decide (upd (fun j => if j < 64 then 0 else me j) a 1 c = 1)) (W * H) = fb_ct (fun k => if k = a then true else false) (W * H) from fb_ct_cong (fun k hk => by
          by_cases q : k = a
          · subst q; rw [pk_us, if_pos rfl]; rfl
          · rw [pk_un q, if_neg q, if_pos (show k < 64 by omega)]; rfl)]
        omega
      · by_cases q : c = a
        · subst q; exact Or.inl ⟨0, by omega, pk_us⟩
        · rw [pk_un q, if_pos (show c < 64 by omega)] at e; cases e
    obtain ⟨t, et, m, e1, hJ⟩ := wh_inv (f := fX4_isWhole_86 v (nI W) (nI H) ce) (fun s => ∃ n m, s.1 = nI n ∧ s.2.1 = nI m ∧ DJ W H ce v S a n m s.2.2.1 s.2.2.2 (fun _ => False)) (fun s => s.1.toNatClampNeg + (64 - s.2.1.toNatClampNeg)) (fun t => ∃ m, t.1 = nI m ∧ DJ W H ce v S a 0 m t.2.1 t.2.2 (fun _ => False)) (by
      rintro ⟨x1, x2, pl, mt⟩ ⟨n, m, e1, e2, hD⟩
      dsimp only at e1 e2 hD
      subst e1; subst e2
      have hD' := hD
      obtain ⟨d1, d2, d3, d4, d5, d6, d7⟩ := hD'
      have hm64 : m ≤ 64 := by rw [d5]; exact Nat.le_trans (fb_ct_le _ _) hWH
      by_cases hn : 0 < n
      · obtain ⟨c, hc, hp, hc1⟩ := d1 (n - 1) (by omega)
        have hcl : (nI n + (-1)).toNatClampNeg = n - 1 := by rw [sb_m1 hn, cl64 (by omega)]
        obtain ⟨t, et, n', m', g1, g2, g3, g4, g5⟩ := dfs_in h hS (n := n - 1) (m := m) (pile := pl) (met := mt) (s86 := (nI n, nI m, pl, mt)) hc hc1 (by show pl (nI n + (-1)).toNatClampNeg = nI c; rw [hcl]; exact hp) ⟨fun k hk => d1 k (by omega), d2, d3, d4, d5, by omega, fun x hx hx1 => by
          rcases d7 x hx hx1 with ⟨k, k1, k2⟩ | hf | hcl'
          · by_cases q : k = n - 1
            · subst q
              rw [hp, nI_eq (by omega) (by omega)] at k2
              exact Or.inr (Or.inl k2.symm)
            · exact Or.inl ⟨k, by omega, k2⟩
          · exact hf.elim
          · exact Or.inr (Or.inr hcl')⟩
        refine Or.inl ⟨(nI n', nI m', t.2.2.1, t.2.2.2), ?_, ⟨n', m', rfl, rfl, g3⟩, ?_⟩
        · unfold fX4_isWhole_86
          dsimp only
          rw [if_neg (nI_nle hn (by omega)), sb_m1 hn, if_pos (ix64 (by omega))]
          rw [show (0 : Int32) = nI 0 from rfl, et]
          simp only [Option.bind_some]
          rw [g1, g2]
        · have hm' : m' ≤ 64 := by rw [g3.2.2.2.2.1]; exact Nat.le_trans (fb_ct_le _ _) hWH
          have hn' : n' ≤ m' := g3.2.2.2.2.2.1
          show (nI n').toNatClampNeg + (64 - (nI m').toNatClampNeg) < (nI n).toNatClampNeg + (64 - (nI m).toNatClampNeg)
          rw [nI_clamp (by omega), nI_clamp (by omega), nI_clamp (by omega), nI_clamp (by omega)]
          omega
      · have : n = 0 := by omega
        subst this
        refine Or.inr ⟨(nI m, pl, mt), ?_, m, rfl, hD⟩
        unfold fX4_isWhole_86
        exact if_pos (show nI 0 ≤ 0 by decide)) FU (nI 1, nI 1, upd pi 0 (nI a), upd (fun j => if j < 64 then 0 else me j) a 1) ⟨1, 1, rfl, rfl, hJ0⟩ (by show (nI 1).toNatClampNeg + (64 - (nI 1).toNatClampNeg) < FU; rw [nI_clamp (by omega)]; decide)
    rw [show (1 : Int32) = nI 1 from rfl] at *
    rw [et]
    simp only [Option.bind_some]
    rw [msize_eq h]
    simp only [Option.bind_some]
    refine ⟨t.2.1, t.2.2, ?_⟩
    obtain ⟨d1, d2, d3, d4, d5, d6, d7⟩ := hJ
    have hcl : ∀ c c', c < W * H → t.2.2 c = 1 → c' < W * H → nb (fi W c) (fi W c') → ce c' = v → t.2.2 c' = 1 := by
      intro c c' hc h1 hc' hn hv
      obtain ⟨way, hw, hb⟩ := nb_bs h hc hc' hn
      rcases d7 c hc h1 with ⟨k, hk, _⟩ | hf | hx
      · omega
      · exact hf.elim
      · exact hx c' way hw hb hv
    have hm64 : m ≤ 64 := by rw [d5]; exact Nat.le_trans (fb_ct_le _ _) hWH
    have hv64 : fb_ct (fun c => decide (ce c = v)) (W * H) ≤ 64 := Nat.le_trans (fb_ct_le _ _) hWH
    have all : m = fb_ct (fun c => decide (ce c = v)) (W * H) ↔ ∀ c, c < W * H → ce c = v → t.2.2 c = 1 := by
      constructor
      · intro e c hc hv
        rcases d2 c hc with h0 | h1
        · have := ct_lt (p := fun c => decide (t.2.2 c = 1)) (q := fun c => decide (ce c = v)) (n := W * H) (fun k hk hk1 => by
            simp only [decide_eq_true_iff] at hk1 ⊢
            exact (d3 k hk hk1).1) ⟨c, hc, by simpa using hv, by simp [h0]⟩
          omega
        · exact h1
      · intro hx
        rw [d5]
        exact fb_ct_cong (fun c hc => by
          by_cases e : t.2.2 c = 1
          · simp [e, (d3 c hc e).1]
          · have : ¬ ce c = v := fun z => e (hx c hc z)
            simp [e, this])
    have hwhole : Whole S ↔ ∀ c, c < W * H → ce c = v → t.2.2 c = 1 := by
      constructor
      · rintro ⟨b, hb1, hb2, hb3⟩ c hc hv
        have hba : b = fi W a := by
          rcases Nat.lt_trichotomy b (fi W a) with q | q | q
          · refine absurd (hS2 b hb1) (hmin _ ?_)
            have := ci_mono h hb1.1 (fi_on h hlt) q
            rwa [ci_fi h hlt] at this
          · exact q
          · exact absurd (hS a hlt (hav hlt)) (hb2 _ q)
        subst hba
        obtain ⟨c2, g1, g2, g3⟩ := hb3 (fi W c) (hS c hc hv) (fun i => ∃ c, c < W * H ∧ fi W c = i ∧ t.2.2 c = 1) ⟨a, hlt, rfl, d4⟩ (by
          rintro u w ⟨c1, q1, rfl, q3⟩ hn hw
          have hwc := ci_lt h hw.1
          refine ⟨ci8 W w, hwc, fi_ci h hw.1, hcl c1 _ q1 q3 hwc (by rw [fi_ci h hw.1]; exact hn) (hS2 w hw)⟩)
        rw [← fi_inj h g1 hc g2]; exact g3
      · intro hx
        refine ⟨fi W a, hS a hlt (hav hlt), fun j hj hjS => ?_, fun i hi => ?_⟩
        · have := ci_mono h hjS.1 (fi_on h hlt) hj
          rw [ci_fi h hlt] at this
          exact hmin _ this (hS2 j hjS)
        · have := (d3 _ (ci_lt h hi.1) (hx _ (ci_lt h hi.1) (hS2 i hi))).2
          rwa [fi_ci h hi.1] at this
    rw [e1]
    rcases tf_c (Whole S) with ⟨hw, ew⟩ | ⟨hw, ew⟩
    · rw [ew, if_pos (by rw [all.mpr (hwhole.mp hw)])]; rfl
    · rw [ew, if_neg (fun e => hw (hwhole.mpr (all.mp ((nI_eq (by omega) (by omega)).mp e))))]; rfl
  · have : a = W * H := by omega
    subst this
    rw [if_pos rfl]
    refine ⟨pi, me, ?_⟩
    rw [tf_f (fun ⟨b, hb1, _⟩ => hmin _ (ci_lt h hb1.1) (hS2 b hb1))]; rfl

/-! moves, on both sides -/
theorem floorMod_eq {T : Nat} (h : T < 2 ^ 30) : fJ9_floorMod_7cf53 (nI T) (100 : Int32) = some (nI (T % 100)) := by
  unfold fJ9_floorMod_7cf53
  rw [if_neg (by decide), if_pos]
  · exact congrArg some (pk_rem (a := T) (d := 100) (by omega) (by omega) (by omega))
  · show 0 ≤ nI T ^^^ nI 100
    have e : nI T ^^^ nI 100 = nI (T ^^^ 100) := by
      apply Int32.toBitVec_inj.mp
      rw [Int32.toBitVec_xor]
      show BitVec.ofNat 32 T ^^^ BitVec.ofNat 32 100 = BitVec.ofNat 32 (T ^^^ 100)
      apply BitVec.eq_of_toNat_eq
      rw [BitVec.toNat_xor, BitVec.toNat_ofNat, BitVec.toNat_ofNat, BitVec.toNat_ofNat, Nat.mod_eq_of_lt (by omega : T < 2 ^ 32), Nat.mod_eq_of_lt (by omega : 100 < 2 ^ 32), Nat.mod_eq_of_lt]
      have := Nat.xor_lt_two_pow (show T < 2 ^ 30 by omega) (show 100 < 2 ^ 30 by omega)
      omega
    rw [e]
    have := Nat.xor_lt_two_pow (show T < 2 ^ 30 by omega) (show 100 < 2 ^ 30 by omega)
    exact nI_pos' (by omega)
theorem ix100 {k : Nat} (h : k < 100) : ix (nI k) 100 = true := by rw [ix_nI (by omega)]; exact h
theorem cl100 {k : Nat} (h : k < 100) : (nI k).toNatClampNeg = k := nI_clamp (by omega)
/-- the moves that are kept: T were done and not taken back (or let go of), k of them are kept -/
def RMV (W H B : Nat) (top kep don : Int32) (vc vf : Nat → Int32) (mke mnx mdo : Int32) (mmc mmf : Nat → Int32) : Prop :=
  ∃ T k, top = nI T ∧ k ≤ T ∧ k ≤ 100 ∧ T ≤ B ∧ kep = nI k ∧ mke = nI k ∧ mnx = nI (T % 100) ∧ don = mdo ∧ ∀ j, j < k → ∃ i t, onb W H i ∧ t < 6 ∧ vc ((T - 1 - j) % 100) = nI i ∧ mmc ((T - 1 - j) % 100) = nI (ci8 W i) ∧ vf ((T - 1 - j) % 100) = nI t ∧ mmf ((T - 1 - j) % 100) = nI t
/-- the boards are alike -/
def RB (W H : Nat) (cell : Nat → Int32) (gl : Nat → Int64) (ce : Nat → Int32) : Prop := BD W H cell ∧ CR cell gl ∧ MC W H cell ce
theorem add_both {W H B : Nat} {top kep don mke mnx mdo : Int32} {vc vf mmc mmf ce : Nat → Int32} (h : WHok W H) (hB : B < 2 ^ 30) (hR : RMV W H B top kep don vc vf mke mnx mdo mmc mmf) {i l : Nat} (hi : onb W H i) (hl : l < 6) (hce : ce (ci8 W i) = nI l) (v : Int32) :
    ∃ top' kep' don' vc' vf' mke' mnx' mdo' mmc' mmf', fX1_add (nI i) (nI l) top kep don vc vf = some (top', kep', don', vc', vf') ∧ fX4_goes (nI (ci8 W i)) v mke mnx mdo ce mmc mmf = some (mke', mnx', mdo', upd ce (ci8 W i) v, mmc', mmf') ∧ RMV W H (B + 1) top' kep' don' vc' vf' mke' mnx' mdo' mmc' mmf' := by
  obtain ⟨T, k, e1, e2, e3, e4, e5, e6, e7, e8, e9⟩ := hR
  subst e1; subst e5; subst e6; subst e7; subst e8
  have hci := ci_lt h hi
  have hWH := WH_le h
  have hp : T % 100 < 100 := Nat.mod_lt _ (by omega)
  have ek : (if (100 : Int32) < nI k + (1 : Int32) then (100 : Int32) else nI k + (1 : Int32)) = nI (min (k + 1) 100) := by
    show (if nI 100 < nI k + 1 then nI 100 else nI k + 1) = _
    rw [nI_1]
    by_cases q : 100 < k + 1
    · rw [if_pos ((nI_ltI (by omega) (by omega)).mpr q)]
      congr 1; omega
    · rw [if_neg (fun z => q ((nI_ltI (by omega) (by omega)).mp z))]
      congr 1; omega
  refine ⟨nI (T + 1), nI (min (k + 1) 100), don + 1, upd vc (T % 100) (nI i), upd vf (T % 100) (nI l), nI (min (k + 1) 100), nI ((T + 1) % 100), don + 1, upd mmc (T % 100) (nI (ci8 W i)), upd mmf (T % 100) (nI l), ?_, ?_, T + 1, min (k + 1) 100, rfl, by omega, by omega, by omega, rfl, rfl, rfl, rfl, ?_⟩
  · unfold fX1_add
    rw [floorMod_eq (by omega)]
    simp only [Option.bind_some]
    rw [if_pos (ix100 hp), if_pos (ix100 hp), cl100 hp, ek, nI_1]
  · unfold fX4_goes
    have en : (nI (T % 100) + (1 : Int32)) - (nI (T % 100) + (1 : Int32)) / (100 : Int32) * (100 : Int32) = nI ((T + 1) % 100) := by
      rw [nI_1]
      have := pk_rem (a := T % 100 + 1) (d := 100) (by omega) (by omega) (by omega)
      rw [show (100 : Int32) = nI 100 from rfl, this]
      congr 1; omega
    rw [if_pos (ix100 hp), if_pos (ix64 (by omega)), if_pos (ix100 hp), cl100 hp, cl64 (show ci8 W i < 64 by omega), hce, en]
    by_cases q : k = 100
    · subst q
      rw [if_pos (show nI 100 = (100 : Int32) from rfl), if_pos (ix64 (by omega)), nI_z]
      rfl
    · rw [if_neg (show ¬ nI k = (100 : Int32) from fun z => q ((nI_eq (b := 100) (by omega) (by omega)).mp z)), if_pos (ix64 (by omega)), nI_1, show min (k + 1) 100 = k + 1 by omega]
  · intro j hj
    by_cases q : j = 0
    · subst q
      rw [show (T + 1 - 1 - 0) % 100 = T % 100 by rw [Nat.add_sub_cancel, Nat.sub_zero]]
      exact ⟨i, l, hi, hl, pk_us, pk_us, pk_us, pk_us⟩
    · have hj' : j - 1 < k := by omega
      obtain ⟨i', t', g1, g2, g3, g4, g5, g6'⟩ := e9 (j - 1) hj'
      have ep : (T + 1 - 1 - j) % 100 = (T - 1 - (j - 1)) % 100 := by congr 1; omega
      have ne : (T - 1 - (j - 1)) % 100 ≠ T % 100 := by omega
      rw [ep]
      exact ⟨i', t', g1, g2, by rw [pk_un ne]; exact g3, by rw [pk_un ne]; exact g4, by rw [pk_un ne]; exact g5, by rw [pk_un ne]; exact g6'⟩
theorem gone_upd {W H : Nat} {cell ce : Nat → Int32} {gl : Nat → Int64} (hR : RB W H cell gl ce) {i : Nat} (hi : onb W H i) {v : Int32} (hv : okv v) : RB W H (fun j => if j = i then v else cell j) (putf gl (fX3_bit (nI i)) v 6) (upd ce (ci8 W i) v) := by
  obtain ⟨h1, h2, h3⟩ := hR
  refine ⟨h1.upd hi hv, putf_CR h2 (onb_lt h1.1.2.2.2 hi) v, ?_⟩
  have := MC_upd h1.1 h3 (ci_lt h1.1 hi) v
  rw [fi_ci h1.1 hi] at this
  exact this
theorem go_both {W H B : Nat} {cell ce : Nat → Int32} {gl : Nat → Int64} {top kep don mke mnx mdo : Int32} {vc vf mmc mmf : Nat → Int32} (hR : RB W H cell gl ce) (hB : B < 2 ^ 30) (hM : RMV W H B top kep don vc vf mke mnx mdo mmc mmf) {i l t : Nat} (hi : onb W H i) (hl : l < 6) (hil : cell i = nI l) (ht : t < 6) :
    ∃ gl' top' kep' don' vc' vf' mke' mnx' mdo' mmc' mmf', fX3_go (nI i) (nI t) gl top kep don vc vf = some (gl', top', kep', don', vc', vf') ∧ fX4_goes (nI (ci8 W i)) (nI t) mke mnx mdo ce mmc mmf = some (mke', mnx', mdo', upd ce (ci8 W i) (nI t), mmc', mmf') ∧ RB W H (gone cell i t) gl' (upd ce (ci8 W i) (nI t)) ∧ RMV W H (B + 1) top' kep' don' vc' vf' mke' mnx' mdo' mmc' mmf' := by
  have h := hR.1.1
  have hce : ce (ci8 W i) = nI l := by rw [hR.2.2 _ (ci_lt h hi), fi_ci h hi]; exact hil
  obtain ⟨top', kep', don', vc', vf', mke', mnx', mdo', mmc', mmf', g1, g2, g3⟩ := add_both (ce := ce) h hB hM hi hl hce (nI t)
  refine ⟨putf gl (fX3_bit (nI i)) (nI t) 6, top', kep', don', vc', vf', mke', mnx', mdo', mmc', mmf', ?_, g2, gone_upd hR hi (okv_l ht), g3⟩
  unfold fX3_go
  rw [landOf_eq hR.2.1 (onb_lt h.2.2.2 hi) (hR.1.2.2 i), hil]
  simp only [Option.bind_some]
  rw [g1]
  simp only [Option.bind_some, put_eq]
/-- one step, on both sides -/
theorem step_both {W H B : Nat} {cell ce ki mk ow mo wa mwa : Nat → Int32} {gl : Nat → Int64} {kk ws : Nat → Nat} {top kep don mke mnx mdo : Int32} {vc vf mmc mmf : Nat → Int32} (hR : RB W H cell gl ce) (hk1 : KK ki kk) (hk2 : KK mk kk) (hw1 : WW wa ws) (hw2 : WW mwa ws) (ho : OWN W H ow mo) (hB : B < 2 ^ 30) (hM : RMV W H B top kep don vc vf mke mnx mdo mmc mmf) (pi me : Nat → Int32) :
    ∃ r cell' gl' top' kep' don' vc' vf' mke' mnx' mdo' ce' mmc' mmf' pi' me', (r = 0 ∨ r = 1) ∧ fX3_step gl top kep don vc vf ki ow wa = some (r, gl', top', kep', don', vc', vf') ∧ fX4_goesOn (nI W) (nI H) mke mnx mdo ce mk mo mwa mmc mmf pi me = some (r, mke', mnx', mdo', ce', mmc', mmf', pi', me') ∧ RB W H cell' gl' ce' ∧ RMV W H (B + 1) top' kep' don' vc' vf' mke' mnx' mdo' mmc' mmf' := by
  have h := hR.1.1
  obtain ⟨t, et, l, b, a1, a2, a3, a4, a5⟩ := step_loop hR.1 hR.2.1 hk1 hw1 (ow := ow)
  obtain ⟨t', et', l', b', c1, c2, c3, c4⟩ := goes_loop hR.1 hR.2.2 hk2 hw2 (mo := mo) pi me
  have hbb := search_same hR.1 ho a5 c4
  subst hbb
  have hms : msU cell ws 6 ≤ 390 := msU_le hw1 6 (by omega)
  cases b with
  | none =>
    refine ⟨0, cell, gl, top, kep, don, vc, vf, mke, mnx, mdo, ce, mmc, mmf, t'.2.2.2.1, t'.2.2.2.2, Or.inl rfl, ?_, ?_, hR, ?_⟩
    · unfold fX3_step
      rw [miss_eq hR.2.1 hw1]
      simp only [Option.bind_some]
      rw [show ((0 : Int32), (0 : Int32), (0 : Int32), gl) = ((0 : Int32), (0 : Int32), nI 0, gl) from rfl, et]
      simp only [Option.bind_some]
      have hle : nI (msU cell ws 6) ≤ t.1 := by rw [a1, a5.1]; exact Int32.le_refl _
      rw [if_pos hle, if_pos hle, a4]
    · unfold fX4_goesOn
      rw [mmiss_eq hR.1 hR.2.2 hw2]
      simp only [Option.bind_some]
      rw [show ((-1 : Int32), (0 : Int32), (0 : Int32), ce, pi, me) = ((-1 : Int32), (0 : Int32), nI 0, ce, pi, me) from rfl, et']
      simp only [Option.bind_some]
      rw [if_neg (by rw [show t'.1 = -1 from c2]; decide), c3]
    · obtain ⟨T, k, e1, e2, e3, e4, e5⟩ := hM
      exact ⟨T, k, e1, e2, e3, by omega, e5⟩
  | some q =>
    obtain ⟨i, tt⟩ := q
    obtain ⟨b1, b2, b3, b4, b5⟩ := a5
    dsimp only at b1 b2 b3 b4
    obtain ⟨l0, hl0, hil, -⟩ := id b1
    have hi := hR.1.on hl0 hil
    have ht : tt < 6 := b2.1
    obtain ⟨gl', top', kep', don', vc', vf', mke', mnx', mdo', mmc', mmf', g1, g2, g3, g4⟩ := go_both hR hB hM hi hl0 hil ht
    refine ⟨1, gone cell i tt, gl', top', kep', don', vc', vf', mke', mnx', mdo', _, mmc', mmf', t'.2.2.2.1, t'.2.2.2.2, Or.inr rfl, ?_, ?_, g3, g4⟩
    · unfold fX3_step
      rw [miss_eq hR.2.1 hw1]
      simp only [Option.bind_some]
      rw [show ((0 : Int32), (0 : Int32), (0 : Int32), gl) = ((0 : Int32), (0 : Int32), nI 0, gl) from rfl, et]
      simp only [Option.bind_some]
      have hle : ¬ nI (msU cell ws 6) ≤ t.1 := by rw [a1]; exact nI_ge b4 (by omega)
      rw [if_neg hle, a4, show t.2.1 = nI i from a3.1, show t.2.2.1 = nI tt from a3.2, g1]
      simp only [Option.bind_some]
      rw [if_neg hle]
    · unfold fX4_goesOn
      rw [mmiss_eq hR.1 hR.2.2 hw2]
      simp only [Option.bind_some]
      rw [show ((-1 : Int32), (0 : Int32), (0 : Int32), ce, pi, me) = ((-1 : Int32), (0 : Int32), nI 0, ce, pi, me) from rfl, et']
      simp only [Option.bind_some]
      have hc := ci_lt h hi
      have := WH_le h
      rw [if_pos (by rw [show t'.1 = nI (ci8 W i) from c2.1]; exact nI_pos' (by omega)), c3, show t'.1 = nI (ci8 W i) from c2.1, show t'.2.1 = nI tt from c2.2, g2]
      rfl
theorem RMV.more {W H B B' : Nat} {top kep don mke mnx mdo : Int32} {vc vf mmc mmf : Nat → Int32} (hM : RMV W H B top kep don vc vf mke mnx mdo mmc mmf) (h : B ≤ B') : RMV W H B' top kep don vc vf mke mnx mdo mmc mmf := by
  obtain ⟨T, k, e1, e2, e3, e4, e5⟩ := hM
  exact ⟨T, k, e1, e2, e3, by omega, e5⟩
/-- n steps -/
theorem steps_loops {W H : Nat} {ki mk ow mo wa mwa : Nat → Int32} {kk ws : Nat → Nat} (hk1 : KK ki kk) (hk2 : KK mk kk) (hw1 : WW wa ws) (hw2 : WW mwa ws) (ho : OWN W H ow mo) {N : Nat} (hN : N ≤ 64) : ∀ (d : Nat) (k B F F' : Nat) {cell ce : Nat → Int32} {gl : Nat → Int64} {top kep don mke mnx mdo : Int32} {vc vf mmc mmf : Nat → Int32} (pi me : Nat → Int32), k + d = N → d < F → d + 1 < F' → B + d < 2 ^ 30 → RB W H cell gl ce → RMV W H B top kep don vc vf mke mnx mdo mmc mmf →
    ∃ r cell' gl' top' kep' don' vc' vf' mke' mnx' mdo' ce' mmc' mmf' pi' me', wh (fX3_steps_15 (nI N) ki ow wa) F (nI k, gl, top, kep, don, vc, vf) = some (r, gl', top', kep', don', vc', vf') ∧ wh (fX4_steps_16 (nI N) (nI W) (nI H) mk mo mwa) F' (nI k, (1 : Int32), mke, mnx, mdo, ce, mmc, mmf, pi, me) = some (r, mke', mnx', mdo', ce', mmc', mmf', pi', me') ∧ RB W H cell' gl' ce' ∧ RMV W H (B + d) top' kep' don' vc' vf' mke' mnx' mdo' mmc' mmf' := by
  intro d
  induction d with
  | zero =>
    intro k B F F' cell ce gl top kep don mke mnx mdo vc vf mmc mmf pi me hk hF hF' hB hR hM
    obtain ⟨F, rfl⟩ : ∃ z, F = z + 1 := ⟨F - 1, by omega⟩
    obtain ⟨F', rfl⟩ : ∃ z, F' = z + 1 := ⟨F' - 1, by omega⟩
    have : k = N := by omega
    subst this
    refine ⟨nI k, cell, gl, top, kep, don, vc, vf, mke, mnx, mdo, ce, mmc, mmf, pi, me, wh_out ?_, wh_out ?_, hR, hM⟩
    · unfold fX3_steps_15; exact if_pos (Int32.le_refl _)
    · unfold fX4_steps_16
      dsimp only
      rw [if_neg (by decide), if_pos (Int32.le_refl _)]
  | succ d ih =>
    intro k B F F' cell ce gl top kep don mke mnx mdo vc vf mmc mmf pi me hk hF hF' hB hR hM
    obtain ⟨F, rfl⟩ : ∃ z, F = z + 1 := ⟨F - 1, by omega⟩
    obtain ⟨F', rfl⟩ : ∃ z, F' = z + 1 := ⟨F' - 1, by omega⟩
    have hkN : ¬ nI N ≤ nI k := nI_ge (by omega) (by omega)
    obtain ⟨r, cell', gl', top', kep', don', vc', vf', mke', mnx', mdo', ce', mmc', mmf', pi', me', hr, g1, g2, g3, g4⟩ := step_both hR hk1 hk2 hw1 hw2 ho (by omega) hM pi me
    rcases hr with rfl | rfl
    · obtain ⟨F', rfl⟩ : ∃ z, F' = z + 1 := ⟨F' - 1, by omega⟩
      refine ⟨nI k, cell', gl', top', kep', don', vc', vf', mke', mnx', mdo', ce', mmc', mmf', pi', me', wh_out ?_, ?_, g3, g4.more (by omega)⟩
      · unfold fX3_steps_15
        dsimp only
        rw [if_neg hkN, g1]
        simp only [Option.bind_some, if_true]
      · have e1 : fX4_steps_16 (nI N) (nI W) (nI H) mk mo mwa (nI k, (1 : Int32), mke, mnx, mdo, ce, mmc, mmf, pi, me) = some (.inl (nI k, 0, mke', mnx', mdo', ce', mmc', mmf', pi', me')) := by
          unfold fX4_steps_16
          dsimp only
          rw [if_neg (by decide), if_neg hkN, g2]
          simp only [Option.bind_some, if_true, nI_z]
        rw [wh_in e1]
        refine wh_out ?_
        unfold fX4_steps_16
        exact if_pos rfl
    · obtain ⟨r, cell2, gl2, top2, kep2, don2, vc2, vf2, mke2, mnx2, mdo2, ce2, mmc2, mmf2, pi2, me2, q1, q2, q3, q4⟩ := ih (k + 1) (B + 1) F F' pi' me' (by omega) (by omega) (by omega) (by omega) g3 g4
      refine ⟨r, cell2, gl2, top2, kep2, don2, vc2, vf2, mke2, mnx2, mdo2, ce2, mmc2, mmf2, pi2, me2, ?_, ?_, q3, q4.more (by omega)⟩
      · have e1 : fX3_steps_15 (nI N) ki ow wa (nI k, gl, top, kep, don, vc, vf) = some (.inl (nI (k + 1), gl', top', kep', don', vc', vf')) := by
          unfold fX3_steps_15
          dsimp only
          rw [if_neg hkN, g1]
          simp only [Option.bind_some, nI_1]
          rw [if_neg (by decide)]
        rw [wh_in e1]; exact q1
      · have e1 : fX4_steps_16 (nI N) (nI W) (nI H) mk mo mwa (nI k, (1 : Int32), mke, mnx, mdo, ce, mmc, mmf, pi, me) = some (.inl (nI (k + 1), 1, mke', mnx', mdo', ce', mmc', mmf', pi', me')) := by
          unfold fX4_steps_16
          dsimp only
          rw [if_neg (by decide), if_neg hkN, g2]
          simp only [Option.bind_some, nI_1]
          rw [if_neg (by decide)]
        rw [wh_in e1]; exact q2

/-! the model: who may go -/
theorem up_back (f : Nat → Int32) (k : Nat) (x : Int32) : upd (upd f k x) k (f k) = f := by
  funext j
  by_cases e : j = k
  · subst e; rw [pk_us]
  · rw [pk_un e, pk_un e]
theorem MC_upd {W H : Nat} {cell ce : Nat → Int32} (h : WHok W H) (hm : MC W H cell ce) {c : Nat} (hc : c < W * H) (v : Int32) : MC W H (fun j => if j = fi W c then v else cell j) (upd ce c v) := by
  intro x hx
  show _ = if fi W x = fi W c then v else cell (fi W x)
  by_cases e : x = c
  · subst e; rw [pk_us, if_pos rfl]
  · rw [pk_un e, if_neg (fun z => e (fi_inj h hx hc z))]; exact hm x hx
/-- the shore, way by way -/
def Shr (W H : Nat) (ce : Nat → Int32) (v : Int32) (k way : Nat) : Prop := ce k = v ∧ (match bs W H k way with
  | some o => ce o = -4
  | none => True)
theorem shore_eq {W H : Nat} {ce : Nat → Int32} (h : WHok W H) {c : Nat} (hc : c < W * H) : wh (fX4_doesLeave_27 (nI c) (nI W) (nI H) ce) FU ((0 : Int32), nI 0) = some (tf (∃ k, k < W * H ∧ ∃ way, way < 4 ∧ Shr W H (upd ce c 7) (ce c) k way)) := by
  have hWH := WH_le h
  have hc64 : c < 64 := by omega
  have tfo : ∀ {P Q R : Prop}, (R ↔ P ∨ Q) → P → tf R = 1 := fun e p => tf_t (e.mpr (Or.inl p))
  have step : ∀ (k : Nat), k < W * H → ∀ (w : Nat), w < 4 → ∀ (P : Prop) (q : Int32), fX4_doesLeave_44 (nI c) (nI W) (nI H) ce (q, nI k) (tf P, nI w) = some (.inl (tf (P ∨ Shr W H (upd ce c 7) (ce c) k w), nI (w + 1))) := by
    intro k hk w hw P q
    have hk64 : k < 64 := by omega
    unfold fX4_doesLeave_44
    dsimp only
    rw [if_neg (n4 hw), beside_eq h hk hw]
    simp only [Option.bind_some, nI_1]
    rw [cl64 hc64]
    rcases tf_c P with ⟨hP, eP⟩ | ⟨hP, eP⟩
    · rw [eP, if_neg (by decide : ¬ (1 : Int32) = 0), tf_t (Or.inl hP)]
    · rw [eP, if_pos rfl, if_pos (ix64 hk64), cl64 hk64]
      unfold Shr
      by_cases e : upd ce c 7 k = ce c
      · rw [if_pos e]
        cases hb : bs W H k w with
        | none => rw [if_pos (show oI none < 0 by decide), tf_t (Or.inr ⟨e, trivial⟩)]
        | some o =>
          have ho := (bs_lt h hk hb).1
          rw [show oI (some o) = nI o from rfl, if_neg (nI_pos (by omega)), if_pos (ix64 (by omega)), cl64 (by omega)]
          by_cases e2 : upd ce c 7 o = -4
          · rw [if_pos e2, tf_t (Or.inr ⟨e, e2⟩)]
          · rw [if_neg e2, tf_f (fun z => z.elim hP (fun y => e2 y.2))]
      · rw [if_neg e, tf_f (fun z => z.elim hP (fun y => e y.1))]
  have inner : ∀ (k : Nat), k < W * H → ∀ (P : Prop) (q : Int32), wh (fX4_doesLeave_44 (nI c) (nI W) (nI H) ce (q, nI k)) FU (tf P, nI 0) = some (tf (P ∨ ∃ way, way < 4 ∧ Shr W H (upd ce c 7) (ce c) k way)) := by
    intro k hk P q
    have e := wh_cnt (f := fX4_doesLeave_44 (nI c) (nI W) (nI H) ce (q, nI k)) (fun w => (tf (P ∨ ∃ way, way < w ∧ Shr W H (upd ce c 7) (ce c) k way), nI w)) 4 FU (t := tf (P ∨ ∃ way, way < 4 ∧ Shr W H (upd ce c 7) (ce c) k way)) (fun w hw => by
      rw [step k hk w hw]
      refine congrArg (fun z => some (Sum.inl (z, nI (w + 1)))) (tf_iff ?_)
      rw [or_assoc]
      refine or_congr_right ⟨fun g => ?_, fun ⟨way, g1, g2⟩ => ?_⟩
      · rcases g with ⟨way, g1, g2⟩ | g
        · exact ⟨way, by omega, g2⟩
        · exact ⟨w, by omega, g⟩
      · by_cases e : way = w
        · subst e; exact Or.inr g2
        · exact Or.inl ⟨way, by omega, g2⟩) (by unfold fX4_doesLeave_44; exact if_pos g4) (by decide)
    rw [tf_iff (show (P ∨ ∃ way, way < 0 ∧ Shr W H (upd ce c 7) (ce c) k way) ↔ P from ⟨fun z => z.elim id (fun ⟨w, hw, _⟩ => by omega), Or.inl⟩)] at e
    exact e
  have e := wh_cnt (f := fX4_doesLeave_27 (nI c) (nI W) (nI H) ce) (fun n => (tf (∃ k, k < n ∧ ∃ way, way < 4 ∧ Shr W H (upd ce c 7) (ce c) k way), nI n)) (W * H) FU (t := tf (∃ k, k < W * H ∧ ∃ way, way < 4 ∧ Shr W H (upd ce c 7) (ce c) k way)) (fun n hn => by
    unfold fX4_doesLeave_27
    dsimp only
    rw [mulWH, if_neg (nI_ge hn (by omega)), show (0 : Int32) = nI 0 from rfl, inner n hn]
    simp only [Option.bind_some, nI_1]
    refine congrArg (fun z => some (Sum.inl (z, nI (n + 1)))) (tf_iff ⟨fun g => ?_, fun ⟨k, g1, g2⟩ => ?_⟩)
    · rcases g with ⟨k, g1, g2⟩ | g
      · exact ⟨k, by omega, g2⟩
      · exact ⟨n, by omega, g⟩
    · by_cases e : k = n
      · subst e; exact Or.inr g2
      · exact Or.inl ⟨k, by omega, g2⟩) (by unfold fX4_doesLeave_27; dsimp only; rw [mulWH, if_pos (nI_le (Nat.le_refl _) (by omega))]) (by unfold FU; omega)
  rw [tf_f (show ¬ ∃ k, k < 0 ∧ ∃ way, way < 4 ∧ Shr W H (upd ce c 7) (ce c) k way from fun ⟨k, hk, _⟩ => by omega)] at e
  exact e
theorem sevn {l : Nat} (h : l < 6) : ¬ (7 : Int32) = nI l := fun e => by
  have := (nI_eq (a := 7) (by omega) (by omega)).mp e
  omega
theorem doesLeave_eq {W H : Nat} {cell ce mk mo : Nat → Int32} {kk : Nat → Nat} (hb : BD W H cell) (hm : MC W H cell ce) (hkk : KK mk kk) {c l : Nat} (hc : c < W * H) (hl : l < 6) (e : cell (fi W c) = nI l) (pi me : Nat → Int32) : ∃ pi' me', fX4_doesLeave (nI c) (nI W) (nI H) ce mk mo pi me = some (tf (LV W H cell (kk l) (mo l = nI c) l (fi W c)), ce, pi', me') := by
  have h := hb.1
  have hWH := WH_le h
  have hc64 : c < 64 := by omega
  have hcl : ce c = nI l := by rw [hm c hc]; exact e
  obtain ⟨pi', me', ew⟩ := mwhole_eq h (MC_upd h hm hc 7) (nI l) pi me
  refine ⟨pi', me', ?_⟩
  have hS : (fun i => onb W H i ∧ (if i = fi W c then (7 : Int32) else cell i) = nI l) = (fun j => cell j = nI l ∧ j ≠ fi W c) := by
    funext j
    refine propext ?_
    by_cases q : j = fi W c
    · rw [if_pos q]; exact ⟨fun z => absurd z.2 (sevn hl), fun z => absurd q z.2⟩
    · rw [if_neg q]; exact ⟨fun z => ⟨z.2, q⟩, fun z => ⟨hb.on hl z.1, z.1⟩⟩
  rw [hS] at ew
  have hsea : (∃ k, k < W * H ∧ ∃ way, way < 4 ∧ Shr W H (upd ce c 7) (ce c) k way) ↔ SeaT W H cell (fun j => cell j = nI l ∧ j ≠ fi W c) := by
    rw [hcl]
    unfold Shr
    constructor
    · rintro ⟨k, hk, way, hw, e1, e2⟩
      have hkc : k ≠ c := fun z => by subst z; rw [pk_us] at e1; exact sevn hl e1
      rw [pk_un hkc, hm k hk] at e1
      refine ⟨fi W k, fi_lt h hk, ⟨e1, fun z => hkc (fi_inj h hk hc z)⟩, ?_⟩
      cases hbs : bs W H k way with
      | none => exact Or.inl ((edg_bs h hk).mpr ⟨way, hw, hbs⟩)
      | some o =>
        rw [hbs] at e2
        obtain ⟨ho, n⟩ := bs_lt h hk hbs
        have e2 : upd ce c 7 o = -4 := e2
        have hoc : o ≠ c := fun z => by subst z; rw [pk_us] at e2; exact absurd e2 (by decide)
        rw [pk_un hoc, hm o ho] at e2
        exact Or.inr ⟨fi W o, fi_lt h ho, n, fi_on h ho, e2⟩
    · rintro ⟨i, hi, ⟨e1, e2⟩, e3⟩
      have oi := hb.on hl e1
      have hic : ci8 W i ≠ c := fun z => e2 (by rw [← z, fi_ci h oi])
      have e1' : upd ce c 7 (ci8 W i) = nI l := by rw [pk_un hic, hm _ (ci_lt h oi), fi_ci h oi]; exact e1
      rcases e3 with e3 | ⟨j, hj, n, oj, e4⟩
      · rw [← fi_ci h oi] at e3
        obtain ⟨way, hw, hbs⟩ := (edg_bs h (ci_lt h oi)).mp e3
        exact ⟨ci8 W i, ci_lt h oi, way, hw, e1', by rw [hbs]; trivial⟩
      · obtain ⟨way, hw, hbs⟩ := nb_bs h (ci_lt h oi) (ci_lt h oj) (by rw [fi_ci h oi, fi_ci h oj]; exact n)
        refine ⟨ci8 W i, ci_lt h oi, way, hw, e1', ?_⟩
        rw [hbs]
        show upd ce c 7 (ci8 W j) = -4
        have hjc : ci8 W j ≠ c := fun z => by
          rw [← z, fi_ci h oj] at e
          rw [e] at e4
          exact sw_nI (by omega) e4
        rw [pk_un hjc, hm _ (ci_lt h oj), fi_ci h oj]; exact e4
  have esh := shore_eq h hc (ce := ce)
  rw [tf_iff hsea] at esh
  unfold fX4_doesLeave
  rw [if_pos (ix64 hc64), if_pos (ix64 hc64), cl64 hc64, up_back]
  simp only [hcl]
  rw [ew]
  simp only [Option.bind_some]
  rw [show ((0 : Int32), (0 : Int32)) = ((0 : Int32), nI 0) from rfl, esh]
  simp only [Option.bind_some]
  rw [if_pos (ix64 hc64), cl6 hl, (hkk l hl).1]
  have hk2 := (hkk l hl).2
  have lt2 : nI (kk l) < (2 : Int32) ↔ kk l < 2 := nI_ltI (b := 2) (by omega) (by omega)
  have eq0 : nI (kk l) = 0 ↔ kk l = 0 := nI_eq (b := 0) (by omega) (by omega)
  simp only [ix6 hl, if_true]
  unfold LV
  rcases tf_c (Whole (fun j => cell j = nI l ∧ j ≠ fi W c)) with ⟨hw, e1⟩ | ⟨hw, e1⟩
  · rw [e1, if_neg (by decide : ¬ (1 : Int32) = 0)]
    rcases tf_c (SeaT W H cell (fun j => cell j = nI l ∧ j ≠ fi W c)) with ⟨hs, e2⟩ | ⟨hs, e2⟩
    · rw [e2, if_neg (by decide : ¬ (1 : Int32) = 0)]
      by_cases k0 : kk l = 0
      · rw [if_pos (eq0.mpr k0), if_pos (lt2.mpr (by omega)), tf_t ⟨hw, Or.inl k0, Or.inl (by omega)⟩]
      · rw [if_neg (fun z => k0 (eq0.mp z))]
        by_cases ho : mo l = nI c
        · rw [if_pos ho, tf_f (fun z => z.2.1.elim k0 (fun y => y ho))]
        · rw [if_neg ho, tf_t ⟨hw, Or.inr ho, Or.inr hs⟩]
          by_cases k2 : kk l < 2
          · rw [if_pos (lt2.mpr k2)]
          · rw [if_neg (fun z => k2 (lt2.mp z))]
    · rw [e2, if_pos (rfl : (0 : Int32) = 0)]
      by_cases k0 : kk l = 0
      · rw [if_pos (eq0.mpr k0), if_pos (lt2.mpr (by omega)), tf_t ⟨hw, Or.inl k0, Or.inl (by omega)⟩]
      · rw [if_neg (fun z => k0 (eq0.mp z))]
        by_cases ho : mo l = nI c
        · rw [if_pos ho, tf_f (fun z => z.2.1.elim k0 (fun y => y ho))]
        · rw [if_neg ho]
          by_cases k2 : kk l < 2
          · rw [if_pos (lt2.mpr k2), tf_t ⟨hw, Or.inr ho, Or.inl k2⟩]
          · rw [if_neg (fun z => k2 (lt2.mp z)), tf_f (fun z => z.2.2.elim k2 hs)]
  · rw [e1, if_pos (rfl : (0 : Int32) = 0), tf_f (fun z => hw z.1)]
theorem mayGo_26_eq {W H : Nat} {ce : Nat → Int32} (h : WHok W H) {c : Nat} (hc : c < W * H) (v : Int32) : wh (fX4_mayGo_26 (nI c) v (nI W) (nI H) ce) FU ((0 : Int32), nI 0) = some (tf (∃ way o, way < 4 ∧ bs W H c way = some o ∧ ce o = v)) := by
  have hWH := WH_le h
  have e := wh_cnt (f := fX4_mayGo_26 (nI c) v (nI W) (nI H) ce) (fun w => (tf (∃ way o, way < w ∧ bs W H c way = some o ∧ ce o = v), nI w)) 4 FU (t := tf (∃ way o, way < 4 ∧ bs W H c way = some o ∧ ce o = v)) (fun w hw => by
    unfold fX4_mayGo_26
    dsimp only
    rw [if_neg (n4 hw), beside_eq h hc hw]
    simp only [Option.bind_some, nI_1]
    have grow : (∃ way o, way < w ∧ bs W H c way = some o ∧ ce o = v) → ∃ way o, way < w + 1 ∧ bs W H c way = some o ∧ ce o = v := fun ⟨way, o, g1, g2⟩ => ⟨way, o, by omega, g2⟩
    have only : ¬ (∃ way o, way < w ∧ bs W H c way = some o ∧ ce o = v) → (∀ o, bs W H c w = some o → ¬ ce o = v) → ¬ ∃ way o, way < w + 1 ∧ bs W H c way = some o ∧ ce o = v := by
      rintro g1 g2 ⟨way, o, g3, g4, g5⟩
      by_cases e : way = w
      · subst e; exact g2 o g4 g5
      · exact g1 ⟨way, o, by omega, g4, g5⟩
    rcases tf_c (∃ way o, way < w ∧ bs W H c way = some o ∧ ce o = v) with ⟨hP, eP⟩ | ⟨hP, eP⟩
    · rw [eP, if_neg (by decide : ¬ (1 : Int32) = 0), tf_t (grow hP)]
    · rw [eP, if_pos rfl]
      cases hb : bs W H c w with
      | none => rw [if_pos (show oI none < 0 by decide), tf_f (only hP (fun o ho => by rw [hb] at ho; cases ho))]
      | some o =>
        have ho := (bs_lt h hc hb).1
        rw [show oI (some o) = nI o from rfl, if_neg (nI_pos (by omega)), if_pos (ix64 (by omega)), cl64 (by omega)]
        by_cases q : ce o = v
        · rw [if_pos q, tf_t ⟨w, o, by omega, hb, q⟩]
        · rw [if_neg q, tf_f (only hP (fun o' ho' => by rw [hb] at ho'; cases ho'; exact q))]) (by unfold fX4_mayGo_26; exact if_pos g4) (by decide)
  rw [tf_f (show ¬ ∃ way o, way < 0 ∧ bs W H c way = some o ∧ ce o = v from fun ⟨w, o, hw, _⟩ => by omega)] at e
  exact e
theorem mayGo_eq {W H : Nat} {cell ce mk mo : Nat → Int32} {kk : Nat → Nat} (hb : BD W H cell) (hm : MC W H cell ce) (hkk : KK mk kk) {c t : Nat} (hc : c < W * H) (ht : t < 6) (pi me : Nat → Int32) : ∃ pi' me', fX4_mayGo (nI c) (nI t) (nI W) (nI H) ce mk mo pi me = some (tf (MG W H cell kk (fun l i => mo l = nI (ci8 W i)) (fi W c) t), ce, pi', me') := by
  have h := hb.1
  have hWH := WH_le h
  have hc64 : c < 64 := by omega
  have hv : ∀ {cl ce'}, BD W H cl → MC W H cl ce' → ∀ x, x < W * H → okv (ce' x) := fun hb' hm' x hx => by rw [hm' x hx]; exact hb'.2.2 _
  unfold fX4_mayGo
  rw [if_pos (ix64 hc64)]
  simp only [cl64 hc64]
  rcases hb.2.2 (fi W c) with e | ⟨l, hl, e⟩
  · refine ⟨pi, me, ?_⟩
    rw [if_pos (by rw [hm c hc]; exact e), tf_f]
    rintro ⟨l, hl, e2, -⟩
    rw [e] at e2
    exact sw_nI (by omega) e2.symm
  · have hcl : ce c = nI l := by rw [hm c hc]; exact e
    have one : ∀ l', cell (fi W c) = nI l' → l' < 6 → l' = l := by
      intro l' e' h'
      rw [e, eqP (by omega) (by omega)] at e'
      exact e'.symm
    rw [hcl, if_neg (sw_nI (by omega))]
    by_cases hlt : l = t
    · refine ⟨pi, me, ?_⟩
      rw [if_pos (by rw [hlt]), tf_f]
      rintro ⟨l', hl', e2, h3, -⟩
      exact h3 ((one l' e2 hl').trans hlt)
    · rw [if_neg (fun z => hlt ((eqP (by omega) (by omega)).mp z)), show ((0 : Int32), (0 : Int32)) = ((0 : Int32), nI 0) from rfl, mayGo_26_eq h hc]
      simp only [Option.bind_some]
      have hnb : (∃ way o, way < 4 ∧ bs W H c way = some o ∧ ce o = nI t) ↔ ∃ j, j < 64 ∧ nb (fi W c) j ∧ cell j = nI t := by
        constructor
        · rintro ⟨way, o, hw, hbs, eo⟩
          obtain ⟨ho, n⟩ := bs_lt h hc hbs
          exact ⟨fi W o, fi_lt h ho, n, by rw [← hm o ho]; exact eo⟩
        · rintro ⟨j, hj, n, ej⟩
          have oj := hb.on ht ej
          obtain ⟨way, hw, hbs⟩ := nb_bs h hc (ci_lt h oj) (by rw [fi_ci h oj]; exact n)
          exact ⟨way, _, hw, hbs, by rw [hm _ (ci_lt h oj), fi_ci h oj]; exact ej⟩
      rcases tf_c (∃ way o, way < 4 ∧ bs W H c way = some o ∧ ce o = nI t) with ⟨hN, eN⟩ | ⟨hN, eN⟩
      · rw [eN, if_neg (by decide : ¬ (1 : Int32) = 0)]
        obtain ⟨pi', me', eL⟩ := doesLeave_eq hb hm hkk hc hl e (mo := mo) pi me
        refine ⟨pi', me', ?_⟩
        rw [eL]
        simp only [Option.bind_some]
        have hci : ci8 W (fi W c) = c := ci_fi h hc
        rcases tf_c (LV W H cell (kk l) (mo l = nI c) l (fi W c)) with ⟨hL, e1⟩ | ⟨hL, e1⟩
        · rw [e1, if_neg (by decide : ¬ (1 : Int32) = 0)]
          have hon := fi_on h hc
          have hb2 := hb.upd hon (okv_l ht)
          have hm2 := MC_upd h hm hc (nI t)
          obtain ⟨t1, et1, bt1⟩ := touches_eq h (hv hb hm)
          obtain ⟨t2, et2, bt2⟩ := touches_eq h (hv hb2 hm2)
          rw [et1]
          simp only [Option.bind_some]
          rw [if_pos (ix64 hc64), et2]
          simp only [Option.bind_some]
          have hts : t2 = t1 ↔ TS W H cell (fun j => if j = fi W c then nI t else cell j) := by
            rw [← MTB_same hb hm hb2 hm2]
            constructor
            · intro hh b hb'
              rw [← bt1 b hb', ← bt2 b hb', hh]
            · intro hh
              refine Bt_ext (fun b hb' => Bool.eq_iff_iff.mpr ?_)
              rw [bt1 b hb', bt2 b hb', hh b hb']
          have hback : upd (upd ce c (nI t)) c (nI l) = ce := by rw [← hcl]; exact up_back ce c _
          simp only [ix64 hc64, if_true, hback]
          by_cases h2 : t2 = t1
          · rw [if_pos (cmp0.mpr h2), tf_t ⟨l, hl, e, hlt, hnb.mp hN, by show LV W H cell (kk l) (mo l = nI (ci8 W (fi W c))) l (fi W c); rw [hci]; exact hL, hts.mp h2⟩]
          · rw [if_neg (fun z => h2 (cmp0.mp z)), tf_f]
            rintro ⟨l', hl', e2, h3, h4, h5, h6⟩
            exact h2 (hts.mpr h6)
        · rw [e1, if_pos (rfl : (0 : Int32) = 0), tf_f]
          rintro ⟨l', hl', e2, h3, h4, h5, h6⟩
          have := one l' e2 hl'
          subst this
          have h5 : LV W H cell (kk l') (mo l' = nI (ci8 W (fi W c))) l' (fi W c) := h5
          rw [hci] at h5
          exact hL h5
      · refine ⟨pi, me, ?_⟩
        rw [eN, if_pos (rfl : (0 : Int32) = 0), tf_f]
        rintro ⟨l', hl', e2, h3, h4, -⟩
        exact hN (hnb.mpr h4)

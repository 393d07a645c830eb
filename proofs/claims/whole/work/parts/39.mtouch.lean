/-! the model: who touches whom -/
def nu (v : Int32) : Nat := if v = -4 then 6 else v.toNatClampNeg
theorem nu_s : nu (-4) = 6 := if_pos rfl
theorem nu_l {l : Nat} (h : l < 6) : nu (nI l) = l := by unfold nu; rw [if_neg (sw_nI (by omega)), cl6 h]
theorem nu_lt {v : Int32} (h : okv v) : nu v < 7 := by
  rcases h with rfl | ⟨l, hl, rfl⟩
  · rw [nu_s]; omega
  · rw [nu_l hl]; omega
theorem nu_6 {v : Int32} (h : okv v) : nu v = 6 ↔ v = -4 := by
  rcases h with rfl | ⟨l, hl, rfl⟩
  · simp [nu_s]
  · rw [nu_l hl]; exact ⟨fun e => by omega, fun e => absurd e (sw_nI (by omega))⟩
theorem nu_e {v : Int32} (h : okv v) {a : Nat} (ha : a < 6) : nu v = a ↔ v = nI a := by
  rcases h with rfl | ⟨l, hl, rfl⟩
  · rw [nu_s]; exact ⟨fun e => by omega, fun e => absurd e.symm (sw_nI (by omega))⟩
  · rw [nu_l hl, nI_eq (by omega) (by omega)]
theorem numberOf_eq {v : Int32} (h : okv v) : fX4_numberOf v = nI (nu v) := by
  unfold fX4_numberOf
  rcases h with rfl | ⟨l, hl, rfl⟩
  · rw [if_pos rfl, nu_s]; rfl
  · rw [if_neg (sw_nI (by omega)), nu_l hl]
def nbr (W H : Nat) (ce : Nat → Int32) (c way : Nat) : Nat := match bs W H c way with
  | some c' => nu (ce c')
  | none => 6
def Con (W H : Nat) (ce : Nat → Int32) (c way k : Nat) : Prop := nu (ce c) ≠ nbr W H ce c way ∧ (k = 7 * nu (ce c) + nbr W H ce c way ∨ k = 7 * nbr W H ce c way + nu (ce c))
theorem n7s {a b : Nat} : (7 : Int32) * nI a + nI b = nI (7 * a + b) := by
  show nI 7 * nI a + nI b = _
  rw [pk_mul, nI_add]
theorem mt_step {W H : Nat} {ce : Nat → Int32} (h : WHok W H) (hv : ∀ c, c < W * H → okv (ce c)) {c w : Nat} (hc : c < W * H) (hw : w < 4) (q p : Int64) : ∃ p', fX4_touches_20 (nI W) (nI H) ce (q, nI c) (p, nI w) = some (.inl (p', nI (w + 1))) ∧ ∀ k, k < 64 → (Bt p' k = true ↔ Bt p k = true ∨ Con W H ce c w k) := by
  have hWH := WH_le h
  have hc64 : c < 64 := by omega
  have ha7 := nu_lt (hv c hc)
  have two : ∀ a b : Nat, a < 7 → b < 7 → ∀ k, k < 64 → (Bt (p ||| (1 : Int64) <<< ((nI (7 * a + b)).toInt64 &&& 63) ||| (1 : Int64) <<< ((nI (7 * b + a)).toInt64 &&& 63)) k = true ↔ Bt p k = true ∨ (k = 7 * a + b ∨ k = 7 * b + a)) := by
    intro a b ha hb k hk
    rw [Bt_or, Bt_or, Bt_one _ (by omega) hk, Bt_one _ (by omega) hk, Bool.or_eq_true, Bool.or_eq_true, decide_eq_true_iff, decide_eq_true_iff, or_assoc]
  unfold Con nbr
  unfold fX4_touches_20
  dsimp only
  rw [if_neg (n4 hw), beside_eq h hc hw]
  simp only [Option.bind_some, nI_1]
  rw [if_pos (ix64 hc64), cl64 hc64, numberOf_eq (hv c hc)]
  cases hb : bs W H c w with
  | none =>
    rw [if_neg (show ¬ 0 ≤ oI none by decide)]
    by_cases e : nu (ce c) = 6
    · rw [if_pos (by rw [e]; rfl)]
      exact ⟨p, rfl, fun k _ => ⟨fun z => Or.inl z, fun z => z.elim id (fun y => absurd e y.1)⟩⟩
    · rw [if_neg (show ¬ nI (nu (ce c)) = (6 : Int32) from fun z => e ((nI_eq (b := 6) (by omega) (by omega)).mp z))]
      refine ⟨p ||| (1 : Int64) <<< ((nI (7 * nu (ce c) + 6)).toInt64 &&& 63) ||| (1 : Int64) <<< ((nI (7 * 6 + nu (ce c))).toInt64 &&& 63), ?_, fun k hk => ?_⟩
      · simp only [lt]
        rw [show (6 : Int32) = nI 6 from rfl, n7s, n7s]
      · rw [two _ _ ha7 (by omega) k hk]
        exact or_congr_right ⟨fun z => ⟨e, z⟩, fun z => z.2⟩
  | some c' =>
    obtain ⟨hc', -⟩ := bs_lt h hc hb
    have hc64' : c' < 64 := by omega
    have hb7 := nu_lt (hv c' hc')
    rw [show oI (some c') = nI c' from rfl, if_pos (nI_pos' (by omega)), if_pos (ix64 hc64'), cl64 hc64', numberOf_eq (hv c' hc')]
    by_cases e : nu (ce c) = nu (ce c')
    · rw [if_pos (by rw [e])]
      exact ⟨p, rfl, fun k _ => ⟨fun z => Or.inl z, fun z => z.elim id (fun y => absurd e y.1)⟩⟩
    · rw [if_neg (fun z => e ((nI_eq (by omega) (by omega)).mp z))]
      refine ⟨p ||| (1 : Int64) <<< ((nI (7 * nu (ce c) + nu (ce c'))).toInt64 &&& 63) ||| (1 : Int64) <<< ((nI (7 * nu (ce c') + nu (ce c))).toInt64 &&& 63), ?_, fun k hk => ?_⟩
      · simp only [lt]
        rw [n7s, n7s]
      · rw [two _ _ ha7 hb7 k hk]
        exact or_congr_right ⟨fun z => ⟨e, z⟩, fun z => z.2⟩
def MTB (W H : Nat) (ce : Nat → Int32) (n k : Nat) : Prop := ∃ c, c < n ∧ ∃ way, way < 4 ∧ Con W H ce c way k
theorem touches_eq {W H : Nat} {ce : Nat → Int32} (h : WHok W H) (hv : ∀ c, c < W * H → okv (ce c)) : ∃ t, fX4_touches (nI W) (nI H) ce = some t ∧ ∀ k, k < 64 → (Bt t k = true ↔ MTB W H ce (W * H) k) := by
  have hWH := WH_le h
  have inner : ∀ (c : Nat), c < W * H → ∀ q p0 : Int64, ∃ t, wh (fX4_touches_20 (nI W) (nI H) ce (q, nI c)) FU (p0, nI 0) = some t ∧ ∀ k, k < 64 → (Bt t k = true ↔ Bt p0 k = true ∨ ∃ way, way < 4 ∧ Con W H ce c way k) := by
    intro c hc q p0
    refine wh_inv (fun s => ∃ w, s.2 = nI w ∧ w ≤ 4 ∧ ∀ k, k < 64 → (Bt s.1 k = true ↔ Bt p0 k = true ∨ ∃ way, way < w ∧ Con W H ce c way k)) (fun s => 4 - s.2.toNatClampNeg) _ ?_ FU _ ⟨0, rfl, by omega, fun k _ => ⟨fun z => Or.inl z, fun z => z.elim id (fun ⟨w, hw, _⟩ => by omega)⟩⟩ (by show 4 - (nI 0).toNatClampNeg < FU; have : FU = 10000 := rfl; omega)
    rintro ⟨p, z⟩ ⟨w, hz, hw4, hb⟩
    dsimp only at hz hb
    subst hz
    by_cases hw : w < 4
    · obtain ⟨p', e1, e2⟩ := mt_step h hv hc hw q p
      refine Or.inl ⟨_, e1, ⟨w + 1, rfl, by omega, fun k hk => ?_⟩, by show 4 - (nI (w + 1)).toNatClampNeg < 4 - (nI w).toNatClampNeg; rw [nI_clamp (by omega), nI_clamp (by omega)]; omega⟩
      show Bt p' k = true ↔ _
      rw [e2 k hk, hb k hk, or_assoc]
      refine or_congr_right ⟨fun g => ?_, fun ⟨way, g1, g2⟩ => ?_⟩
      · rcases g with ⟨way, g1, g2⟩ | g
        · exact ⟨way, by omega, g2⟩
        · exact ⟨w, by omega, g⟩
      · by_cases e : way = w
        · subst e; exact Or.inr g2
        · exact Or.inl ⟨way, by omega, g2⟩
    · have : w = 4 := by omega
      subst this
      exact Or.inr ⟨p, by unfold fX4_touches_20; exact if_pos g4, hb⟩
  have outer : ∃ t, wh (fX4_touches_4 (nI W) (nI H) ce) FU ((0 : Int64), nI 0) = some t ∧ ∀ k, k < 64 → (Bt t k = true ↔ MTB W H ce (W * H) k) := by
    refine wh_inv (fun s => ∃ n, s.2 = nI n ∧ n ≤ W * H ∧ ∀ k, k < 64 → (Bt s.1 k = true ↔ MTB W H ce n k)) (fun s => W * H - s.2.toNatClampNeg) _ ?_ FU _ ⟨0, rfl, by omega, fun k _ => by rw [Bt_0]; exact ⟨(fun z => by cases z), (fun ⟨c, hc, _⟩ => by omega)⟩⟩ (by show W * H - (nI 0).toNatClampNeg < FU; have : FU = 10000 := rfl; omega)
    rintro ⟨p, z⟩ ⟨n, hz, hn, hb⟩
    dsimp only at hz hb
    subst hz
    by_cases hlt : n < W * H
    · obtain ⟨t, e1, e2⟩ := inner n hlt p p
      refine Or.inl ⟨(t, nI (n + 1)), ?_, ⟨n + 1, rfl, by omega, fun k hk => ?_⟩, by show W * H - (nI (n + 1)).toNatClampNeg < W * H - (nI n).toNatClampNeg; rw [nI_clamp (by omega), nI_clamp (by omega)]; omega⟩
      · unfold fX4_touches_4
        dsimp only
        rw [mulWH, if_neg (nI_ge hlt (by omega)), show (0 : Int32) = nI 0 from rfl, e1]
        simp only [Option.bind_some, nI_1]
      · show Bt t k = true ↔ _
        rw [e2 k hk, hb k hk]
        constructor
        · rintro (⟨c, g1, g2⟩ | g)
          · exact ⟨c, by omega, g2⟩
          · exact ⟨n, by omega, g⟩
        · rintro ⟨c, g1, g2⟩
          by_cases e : c = n
          · subst e; exact Or.inr g2
          · exact Or.inl ⟨c, by omega, g2⟩
    · have : n = W * H := by omega
      subst this
      exact Or.inr ⟨p, by unfold fX4_touches_4; dsimp only; rw [mulWH, if_pos (nI_le (Nat.le_refl _) (by omega))], hb⟩
  obtain ⟨t, e1, e2⟩ := outer
  exact ⟨t, by show (wh (fX4_touches_4 (nI W) (nI H) ce) FU ((0 : Int64), nI 0)).bind _ = _; rw [e1]; rfl, e2⟩
/-- two of the lands 0 .. 5 and the sea (6) touch -/
def TP (W H : Nat) (cell : Nat → Int32) (a b : Nat) : Prop := if a = 6 then SeaT W H cell (fun i => cell i = nI b) else if b = 6 then SeaT W H cell (fun i => cell i = nI a) else TT cell a b
theorem Con_k {W H : Nat} {ce : Nat → Int32} {c way k : Nat} (h : Con W H ce c way k) (h1 : nu (ce c) < 7) (h2 : nbr W H ce c way < 7) : ∃ a b, a < 7 ∧ b < 7 ∧ a ≠ b ∧ k = 7 * a + b := by
  obtain ⟨n, e | e⟩ := h
  · exact ⟨_, _, h1, h2, n, e⟩
  · exact ⟨_, _, h2, h1, Ne.symm n, e⟩
theorem nbr_lt {W H : Nat} {ce : Nat → Int32} (h : WHok W H) (hv : ∀ c, c < W * H → okv (ce c)) {c way : Nat} (hc : c < W * H) : nbr W H ce c way < 7 := by
  unfold nbr
  cases hb : bs W H c way with
  | none => show 6 < 7; omega
  | some c' => exact nu_lt (hv c' (bs_lt h hc hb).1)
theorem MTB_TP {W H : Nat} {cell ce : Nat → Int32} (hb : BD W H cell) (hm : MC W H cell ce) {a b : Nat} (ha : a < 7) (hb7 : b < 7) (hab : a ≠ b) : MTB W H ce (W * H) (7 * a + b) ↔ TP W H cell a b := by
  have h := hb.1
  have hv : ∀ c, c < W * H → okv (ce c) := fun c hc => by rw [hm c hc]; exact hb.2.2 _
  -- a pair of a cell and its neighbour, whichever is named first
  have pair : MTB W H ce (W * H) (7 * a + b) ↔ ∃ c, c < W * H ∧ ∃ way, way < 4 ∧ ((nu (ce c) = a ∧ nbr W H ce c way = b) ∨ (nu (ce c) = b ∧ nbr W H ce c way = a)) := by
    refine exists_congr (fun c => and_congr_right (fun hc => exists_congr (fun way => and_congr_right (fun _ => ?_))))
    have h1 := nu_lt (hv c hc)
    have h2 := nbr_lt h hv hc (way := way)
    unfold Con
    constructor
    · rintro ⟨-, e | e⟩ <;> omega
    · rintro (⟨e1, e2⟩ | ⟨e1, e2⟩) <;> exact ⟨by omega, by omega⟩
  rw [pair]
  have land : ∀ x y, x < 6 → y < 6 → (∃ c, c < W * H ∧ ∃ way, way < 4 ∧ nu (ce c) = x ∧ nbr W H ce c way = y) → TT cell x y := by
    rintro x y hx hy ⟨c, hc, way, hw, e1, e2⟩
    unfold nbr at e2
    cases hbs : bs W H c way with
    | none => rw [hbs] at e2; have e2 : 6 = y := e2; omega
    | some c' =>
      rw [hbs] at e2
      obtain ⟨hc', n⟩ := bs_lt h hc hbs
      refine ⟨fi W c, fi W c', fi_lt h hc, fi_lt h hc', n, ?_, ?_⟩
      · rw [← hm c hc]; exact (nu_e (hv c hc) hx).mp e1
      · rw [← hm c' hc']; exact (nu_e (hv c' hc') hy).mp e2
  have back : ∀ x y, x < 6 → y < 6 → TT cell x y → ∃ c, c < W * H ∧ ∃ way, way < 4 ∧ nu (ce c) = x ∧ nbr W H ce c way = y := by
    rintro x y hx hy ⟨i, j, hi, hj, n, e1, e2⟩
    have oi := hb.on hx e1
    have oj := hb.on hy e2
    obtain ⟨way, hw, hbs⟩ := nb_bs h (ci_lt h oi) (ci_lt h oj) (by rw [fi_ci h oi, fi_ci h oj]; exact n)
    refine ⟨ci8 W i, ci_lt h oi, way, hw, (nu_e (hv _ (ci_lt h oi)) hx).mpr (by rw [hm _ (ci_lt h oi), fi_ci h oi]; exact e1), ?_⟩
    unfold nbr
    rw [hbs]
    exact (nu_e (hv _ (ci_lt h oj)) hy).mpr (by rw [hm _ (ci_lt h oj), fi_ci h oj]; exact e2)
  have sea : ∀ x, x < 6 → ((∃ c, c < W * H ∧ ∃ way, way < 4 ∧ ((nu (ce c) = x ∧ nbr W H ce c way = 6) ∨ (nu (ce c) = 6 ∧ nbr W H ce c way = x))) ↔ SeaT W H cell (fun i => cell i = nI x)) := by
    intro x hx
    constructor
    · rintro ⟨c, hc, way, hw, ⟨e1, e2⟩ | ⟨e1, e2⟩⟩
      · have e1' := (nu_e (hv c hc) hx).mp e1
        rw [hm c hc] at e1'
        unfold nbr at e2
        cases hbs : bs W H c way with
        | none => exact ⟨fi W c, fi_lt h hc, e1', Or.inl ((edg_bs h hc).mpr ⟨way, hw, hbs⟩)⟩
        | some c' =>
          rw [hbs] at e2
          obtain ⟨hc', n⟩ := bs_lt h hc hbs
          have e2' := (nu_6 (hv c' hc')).mp e2
          rw [hm c' hc'] at e2'
          exact ⟨fi W c, fi_lt h hc, e1', Or.inr ⟨fi W c', fi_lt h hc', n, fi_on h hc', e2'⟩⟩
      · unfold nbr at e2
        cases hbs : bs W H c way with
        | none => rw [hbs] at e2; have e2 : 6 = x := e2; omega
        | some c' =>
          rw [hbs] at e2
          obtain ⟨hc', n⟩ := bs_lt h hc hbs
          have e1' := (nu_6 (hv c hc)).mp e1
          have e2' := (nu_e (hv c' hc') hx).mp e2
          rw [hm c hc] at e1'
          rw [hm c' hc'] at e2'
          exact ⟨fi W c', fi_lt h hc', e2', Or.inr ⟨fi W c, fi_lt h hc, nb_sym n, fi_on h hc, e1'⟩⟩
    · rintro ⟨i, hi, e1, he | ⟨j, hj, n, oj, e2⟩⟩
      · have oi := hb.on hx e1
        rw [← fi_ci h oi] at he
        obtain ⟨way, hw, hbs⟩ := (edg_bs h (ci_lt h oi)).mp he
        refine ⟨ci8 W i, ci_lt h oi, way, hw, Or.inl ⟨(nu_e (hv _ (ci_lt h oi)) hx).mpr (by rw [hm _ (ci_lt h oi), fi_ci h oi]; exact e1), ?_⟩⟩
        unfold nbr
        rw [hbs]
      · have oi := hb.on hx e1
        obtain ⟨way, hw, hbs⟩ := nb_bs h (ci_lt h oi) (ci_lt h oj) (by rw [fi_ci h oi, fi_ci h oj]; exact n)
        refine ⟨ci8 W i, ci_lt h oi, way, hw, Or.inl ⟨(nu_e (hv _ (ci_lt h oi)) hx).mpr (by rw [hm _ (ci_lt h oi), fi_ci h oi]; exact e1), ?_⟩⟩
        unfold nbr
        rw [hbs]
        exact (nu_6 (hv _ (ci_lt h oj))).mpr (by rw [hm _ (ci_lt h oj), fi_ci h oj]; exact e2)
  unfold TP
  by_cases ha6 : a = 6
  · subst ha6
    rw [if_pos rfl, ← sea b (by omega)]
    exact exists_congr (fun c => and_congr_right (fun _ => exists_congr (fun way => and_congr_right (fun _ => or_comm))))
  · rw [if_neg ha6]
    by_cases hb6 : b = 6
    · subst hb6
      rw [if_pos rfl, ← sea a (by omega)]
    · rw [if_neg hb6]
      constructor
      · rintro ⟨c, hc, way, hw, e | e⟩
        · exact land a b (by omega) (by omega) ⟨c, hc, way, hw, e⟩
        · exact TT_sym (land b a (by omega) (by omega) ⟨c, hc, way, hw, e⟩)
      · intro hT
        obtain ⟨c, hc, way, hw, e⟩ := back a b (by omega) (by omega) hT
        exact ⟨c, hc, way, hw, Or.inl e⟩
theorem MTB_same {W H : Nat} {c1 ce1 c2 ce2 : Nat → Int32} (hb1 : BD W H c1) (hm1 : MC W H c1 ce1) (hb2 : BD W H c2) (hm2 : MC W H c2 ce2) : (∀ k, k < 64 → (MTB W H ce1 (W * H) k ↔ MTB W H ce2 (W * H) k)) ↔ TS W H c1 c2 := by
  have h := hb1.1
  have hv1 : ∀ c, c < W * H → okv (ce1 c) := fun c hc => by rw [hm1 c hc]; exact hb1.2.2 _
  have hv2 : ∀ c, c < W * H → okv (ce2 c) := fun c hc => by rw [hm2 c hc]; exact hb2.2.2 _
  constructor
  · intro hk
    refine ⟨fun a b h1 h2 => ?_, fun a h1 => ?_⟩
    · have := hk (7 * a + b) (by omega)
      rw [MTB_TP hb1 hm1 (by omega) (by omega) (by omega), MTB_TP hb2 hm2 (by omega) (by omega) (by omega)] at this
      unfold TP at this
      rwa [if_neg (by omega), if_neg (by omega), if_neg (by omega), if_neg (by omega)] at this
    · have := hk (7 * a + 6) (by omega)
      rw [MTB_TP hb1 hm1 (by omega) (by omega) (by omega), MTB_TP hb2 hm2 (by omega) (by omega) (by omega)] at this
      unfold TP at this
      rwa [if_neg (by omega), if_pos rfl, if_neg (by omega), if_pos rfl] at this
  · rintro ⟨t1, t2⟩
    have tp : ∀ a b, a < 7 → b < 7 → a ≠ b → (TP W H c1 a b ↔ TP W H c2 a b) := by
      intro a b ha hb hab
      unfold TP
      by_cases a6 : a = 6
      · rw [if_pos a6, if_pos a6]; exact t2 b (by omega)
      · rw [if_neg a6, if_neg a6]
        by_cases b6 : b = 6
        · rw [if_pos b6, if_pos b6]; exact t2 a (by omega)
        · rw [if_neg b6, if_neg b6]
          rcases Nat.lt_or_ge a b with q | q
          · exact t1 a b q (by omega)
          · have := t1 b a (by omega) (by omega)
            exact ⟨fun z => TT_sym (this.mp (TT_sym z)), fun z => TT_sym (this.mpr (TT_sym z))⟩
    intro k hk
    constructor
    · intro hM
      have hM' := hM
      obtain ⟨c, hc, way, hw, hcon⟩ := hM'
      obtain ⟨a, b, ha, hb, hab, rfl⟩ := Con_k hcon (nu_lt (hv1 c hc)) (nbr_lt h hv1 hc)
      rw [MTB_TP hb2 hm2 ha hb hab]
      exact (tp a b ha hb hab).mp ((MTB_TP hb1 hm1 ha hb hab).mp hM)
    · intro hM
      have hM' := hM
      obtain ⟨c, hc, way, hw, hcon⟩ := hM'
      obtain ⟨a, b, ha, hb, hab, rfl⟩ := Con_k hcon (nu_lt (hv2 c hc)) (nbr_lt h hv2 hc)
      rw [MTB_TP hb1 hm1 ha hb hab]
      exact (tp a b ha hb hab).mpr ((MTB_TP hb2 hm2 ha hb hab).mp hM)

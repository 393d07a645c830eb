/-! the step that is looked for: of those that may be done the first with the least that is missing -/
/-- the best one found so far among the pairs P: what is missing by it, and which it is -/
def BI (M : Nat → Nat → Prop) (V : Nat → Nat → Nat) (m0 : Nat) (P : Nat → Nat → Prop) (l : Nat) (b : Option (Nat × Nat)) : Prop := match b with
  | none => l = m0 ∧ ∀ i t, P i t → M i t → m0 ≤ V i t
  | some q => M q.1 q.2 ∧ P q.1 q.2 ∧ V q.1 q.2 = l ∧ l < m0 ∧ ∀ i t, P i t → M i t → l ≤ V i t ∧ ((i < q.1 ∨ (i = q.1 ∧ t < q.2)) → l < V i t)
def add1 (P : Nat → Nat → Prop) (i t : Nat) : Nat → Nat → Prop := fun a b => P a b ∨ (a = i ∧ b = t)
theorem BI_cong {M : Nat → Nat → Prop} {V : Nat → Nat → Nat} {m0 : Nat} {P P' : Nat → Nat → Prop} {l : Nat} {b : Option (Nat × Nat)} (h : ∀ i t, M i t → (P i t ↔ P' i t)) (hB : BI M V m0 P l b) : BI M V m0 P' l b := by
  cases b with
  | none => exact ⟨hB.1, fun i t hp hm => hB.2 i t ((h i t hm).mpr hp) hm⟩
  | some q =>
    obtain ⟨h1, h2, h3, h4, h5⟩ := hB
    exact ⟨h1, (h _ _ h1).mp h2, h3, h4, fun i t hp hm => h5 i t ((h i t hm).mpr hp) hm⟩
theorem BI_skip {M : Nat → Nat → Prop} {V : Nat → Nat → Nat} {m0 : Nat} {P : Nat → Nat → Prop} {l i t : Nat} {b : Option (Nat × Nat)} (hB : BI M V m0 P l b) (hn : ¬ M i t) : BI M V m0 (add1 P i t) l b :=
  BI_cong (fun a c hm => ⟨Or.inl, fun z => z.elim id (fun y => by obtain ⟨rfl, rfl⟩ := y; exact absurd hm hn)⟩) hB
theorem BI_keep {M : Nat → Nat → Prop} {V : Nat → Nat → Nat} {m0 : Nat} {P : Nat → Nat → Prop} {l i t : Nat} {b : Option (Nat × Nat)} (hB : BI M V m0 P l b) (ho : ∀ a c, P a c → ¬ (i < a ∨ (i = a ∧ t < c))) (hv : l ≤ V i t) : BI M V m0 (add1 P i t) l b := by
  cases b with
  | none =>
    refine ⟨hB.1, fun a c hp hm => ?_⟩
    rcases hp with hp | ⟨rfl, rfl⟩
    · exact hB.2 a c hp hm
    · rw [← hB.1]; exact hv
  | some q =>
    obtain ⟨h1, h2, h3, h4, h5⟩ := hB
    refine ⟨h1, Or.inl h2, h3, h4, fun a c hp hm => ?_⟩
    rcases hp with hp | ⟨rfl, rfl⟩
    · exact h5 a c hp hm
    · exact ⟨hv, fun z => absurd z (ho _ _ h2)⟩
theorem BI_new {M : Nat → Nat → Prop} {V : Nat → Nat → Nat} {m0 : Nat} {P : Nat → Nat → Prop} {l i t : Nat} {b : Option (Nat × Nat)} (hB : BI M V m0 P l b) (hm : M i t) (hv : V i t < l) : BI M V m0 (add1 P i t) (V i t) (some (i, t)) := by
  have hl : l ≤ m0 ∧ ∀ a c, P a c → M a c → l ≤ V a c := by
    cases b with
    | none => exact ⟨Nat.le_of_eq hB.1, fun a c hp hm => by rw [hB.1]; exact hB.2 a c hp hm⟩
    | some q =>
      obtain ⟨h1, h2, h3, h4, h5⟩ := hB
      exact ⟨by omega, fun a c hp hm => (h5 a c hp hm).1⟩
  refine ⟨hm, Or.inr ⟨rfl, rfl⟩, rfl, by omega, fun a c hp hm' => ?_⟩
  rcases hp with hp | ⟨rfl, rfl⟩
  · have := hl.2 a c hp hm'
    exact ⟨by omega, fun _ => by omega⟩
  · exact ⟨Nat.le_refl _, fun z => by dsimp only at z; omega⟩
theorem BI_one {M : Nat → Nat → Prop} {V : Nat → Nat → Nat} {m0 : Nat} {P P' : Nat → Nat → Prop} {l l' : Nat} {b b' : Option (Nat × Nat)} (h : ∀ i t, M i t → (P i t ↔ P' i t)) (h1 : BI M V m0 P l b) (h2 : BI M V m0 P' l' b') : b = b' := by
  have h1 := BI_cong h h1
  cases b with
  | none =>
    cases b' with
    | none => rfl
    | some q =>
      obtain ⟨a1, a2, a3, a4, a5⟩ := h2
      have := h1.2 _ _ a2 a1
      omega
  | some q =>
    obtain ⟨b1, b2, b3, b4, b5⟩ := h1
    cases b' with
    | none =>
      have := h2.2 _ _ b2 b1
      omega
    | some q' =>
      obtain ⟨a1, a2, a3, a4, a5⟩ := h2
      obtain ⟨i, t⟩ := q
      obtain ⟨i', t'⟩ := q'
      have e1 := b5 _ _ a2 a1
      have e2 := a5 _ _ b2 b1
      dsimp only at *
      have : i = i' ∧ t = t' := by
        have n1 : ¬ (i' < i ∨ (i' = i ∧ t' < t)) := fun z => by have := e1.2 z; omega
        have n2 : ¬ (i < i' ∨ (i = i' ∧ t < t')) := fun z => by have := e2.2 z; omega
        omega
      rw [this.1, this.2]
/-- a set that hangs together isn't empty: what may leave is not alone -/
theorem whole_two {cell : Nat → Int32} {l i : Nat} (hi : i < 64) (h : Whole (fun j => cell j = nI l ∧ j ≠ i)) (hil : cell i = nI l) (h64 : ∀ j, cell j = nI l → j < 64) : 2 ≤ cnt cell l := by
  obtain ⟨a, ⟨h1, h2⟩, -⟩ := h
  have ha := h64 a h1
  unfold cnt
  have e := fb_ct_upd (fun j => decide (cell j = nI l)) false (i := i) (n := 64) hi
  have hp : 0 < fb_ct (fun k => if k = i then false else decide (cell k = nI l)) 64 := fb_ct_pos.mpr ⟨a, ha, by rw [if_neg h2]; simpa using h1⟩
  have h5 : (if (fun j => decide (cell j = nI l)) i = true then 1 else 0) = 1 := if_pos (by simpa using hil)
  rw [h5] at e
  simp only [Bool.false_eq_true, if_false] at e
  simp only [Bool.if_false_left] at e hp
  omega
theorem cnt_pos {cell : Nat → Int32} {l j : Nat} (hj : j < 64) (h : cell j = nI l) : 1 ≤ cnt cell l := fb_ct_pos.mpr ⟨j, hj, by simpa using h⟩
def before (i t : Nat) : Nat → Nat → Prop := fun a c => c < 6 ∧ (a < i ∨ (a = i ∧ c < t))
theorem before_add {i t : Nat} (ht : t < 6) (a c : Nat) : before i (t + 1) a c ↔ add1 (before i t) i t a c := by
  unfold before add1
  constructor
  · rintro ⟨h1, h2⟩
    by_cases e : a = i ∧ c = t
    · exact Or.inr e
    · exact Or.inl ⟨h1, by omega⟩
  · rintro (⟨h1, h2⟩ | ⟨h1, h2⟩) <;> exact ⟨by omega, by omega⟩
theorem before_ord {i t a c : Nat} (h : before i t a c) : ¬ (i < a ∨ (i = a ∧ t < c)) := by unfold before at h; omega
/-- the class's two loops -/
def CB (b : Option (Nat × Nat)) (bc bl : Int32) : Prop := match b with
  | none => True
  | some q => bc = nI q.1 ∧ bl = nI q.2
theorem step_in {W H : Nat} {cell : Nat → Int32} {gl : Nat → Int64} {ki ow wa : Nat → Int32} {kk ws : Nat → Nat} (hb : BD W H cell) (hc : CR cell gl) (hkk : KK ki kk) (hw : WW wa ws) {i l0 : Nat} (hi : i < 64) {b0 : Option (Nat × Nat)} {bc0 bl0 : Int32} (q1 q2 q3 : Int32) (q4 : Nat → Int64) (hl0 : l0 < 1000)
    (hB : BI (MG W H cell kk (fun l i => nI i = ow l)) (fun i t => msU (gone cell i t) ws 6) (msU cell ws 6) (before i 0) l0 b0) (hcb : CB b0 bc0 bl0) :
    ∃ t, wh (fX3_step_36 ki ow wa (nI (msU cell ws 6)) (q1, q2, q3, nI i, q4) (cell i)) FU (nI l0, bc0, bl0, nI 0, gl) = some t ∧ ∃ l b, t.1 = nI l ∧ l < 1000 ∧ CB b t.2.1 t.2.2.1 ∧ t.2.2.2 = gl ∧ BI (MG W H cell kk (fun l i => nI i = ow l)) (fun i t => msU (gone cell i t) ws 6) (msU cell ws 6) (before (i + 1) 0) l b := by
  have hms : msU cell ws 6 ≤ 390 := msU_le hw 6 (by omega)
  have fin : ∀ {l b}, BI (MG W H cell kk (fun l i => nI i = ow l)) (fun i t => msU (gone cell i t) ws 6) (msU cell ws 6) (before i 6) l b → BI (MG W H cell kk (fun l i => nI i = ow l)) (fun i t => msU (gone cell i t) ws 6) (msU cell ws 6) (before (i + 1) 0) l b := fun h => BI_cong (fun a c _ => by unfold before; constructor <;> (rintro ⟨h1, h2⟩; exact ⟨h1, by omega⟩)) h
  rcases hb.2.2 i with e | ⟨l, hl, e⟩
  · -- the sea: none may go
    refine ⟨(nI l0, bc0, bl0, gl), ?_, l0, b0, rfl, hl0, hcb, rfl, BI_cong (fun a c hm => ?_) hB⟩
    · refine wh_out (n := 9999) ?_
      unfold fX3_step_36
      dsimp only
      rw [if_neg (n6 (by omega)), if_pos e]
    · unfold before
      obtain ⟨l, hl, e2, -⟩ := hm
      have : a ≠ i := fun z => by subst z; rw [e] at e2; exact sw_nI (by omega) e2.symm
      constructor <;> (rintro ⟨h1, h2⟩; exact ⟨h1, by omega⟩)
  · refine wh_inv (fun s => ∃ l1 b t, s.1 = nI l1 ∧ l1 < 1000 ∧ CB b s.2.1 s.2.2.1 ∧ s.2.2.2.1 = nI t ∧ t ≤ 6 ∧ s.2.2.2.2 = gl ∧ BI (MG W H cell kk (fun l i => nI i = ow l)) (fun i t => msU (gone cell i t) ws 6) (msU cell ws 6) (before i t) l1 b) (fun s => 6 - s.2.2.2.1.toNatClampNeg) _ ?_ FU _ ⟨l0, b0, 0, rfl, hl0, hcb, rfl, by omega, rfl, hB⟩ (by show 6 - (nI 0).toNatClampNeg < FU; have : FU = 10000 := rfl; omega)
    rintro ⟨x1, x2, x3, x4, x5⟩ ⟨l1, b, t, e1, hl1, hcb1, e4, ht6, e5, hB1⟩
    dsimp only at e1 hcb1 e4 e5
    subst e1; subst e4; subst e5
    by_cases ht : t < 6
    · have hmeas : 6 - (nI (t + 1)).toNatClampNeg < 6 - (nI t).toNatClampNeg := by rw [nI_clamp (by omega), nI_clamp (by omega)]; omega
      have h1 := cnt_pos hi e
      have evb := missBehind_ex hc hw (m := msU cell ws 6) hl ht h1
      have evc := canGo_eq hb hc hkk hi ht (ow := ow)
      rw [e]
      rcases tf_c (MG W H cell kk (fun l i => nI i = ow l) i t) with ⟨hM, eM⟩ | ⟨hM, eM⟩
      · obtain ⟨l', hl', e2, h3, ⟨j, hj, hn, hjt⟩, h5, h6⟩ := id hM
        have hll : l' = l := by rw [e, eqP (by omega) (by omega)] at e2; exact e2.symm
        subst hll
        have evq := missBehind_eq hc hw hi hl ht h3 e (whole_two hi h5.1 e (fun j hj => hb.lt hl hj)) (cnt_pos hj hjt)
        have hV : msU (gone cell i t) ws 6 ≤ 390 := msU_le hw 6 (by omega)
        by_cases hle : l1 ≤ msU (gone cell i t) ws 6
        · refine Or.inl ⟨(nI l1, x2, x3, nI (t + 1), x5), ?_, ⟨l1, b, t + 1, rfl, hl1, hcb1, rfl, by omega, rfl, BI_cong (fun a c _ => (before_add ht a c).symm) (BI_keep hB1 (fun a c => before_ord) hle)⟩, hmeas⟩
          unfold fX3_step_36
          dsimp only
          rw [if_neg (n6 ht), if_neg (sw_nI (by omega)), evq]
          simp only [Option.bind_some, nI_1]
          rw [if_pos (nI_le hle (by omega))]
        · refine Or.inl ⟨(nI (msU (gone cell i t) ws 6), nI i, nI t, nI (t + 1), x5), ?_, ⟨_, some (i, t), t + 1, rfl, by omega, ⟨rfl, rfl⟩, rfl, by omega, rfl, BI_cong (fun a c _ => (before_add ht a c).symm) (BI_new hB1 hM (by omega))⟩, hmeas⟩
          unfold fX3_step_36
          dsimp only
          rw [if_neg (n6 ht), if_neg (sw_nI (by omega)), evq]
          simp only [Option.bind_some, nI_1]
          rw [if_neg (nI_ge (show msU (gone cell i t) ws 6 < l1 by omega) (by omega)), evc, eM]
          simp only [Option.bind_some]
          rw [if_neg (by decide : ¬ (1 : Int32) = 0)]
      · refine Or.inl ⟨(nI l1, x2, x3, nI (t + 1), x5), ?_, ⟨l1, b, t + 1, rfl, hl1, hcb1, rfl, by omega, rfl, BI_cong (fun a c _ => (before_add ht a c).symm) (BI_skip hB1 hM)⟩, hmeas⟩
        unfold fX3_step_36
        dsimp only
        rw [if_neg (n6 ht), if_neg (sw_nI (by omega)), evb]
        simp only [Option.bind_some, nI_1]
        rw [evc, eM]
        simp only [Option.bind_some, if_true, ite_self]
    · have : t = 6 := by omega
      subst this
      exact Or.inr ⟨(nI l1, x2, x3, x5), by unfold fX3_step_36; exact if_pos g6, l1, b, rfl, hl1, hcb1, rfl, fin hB1⟩
theorem step_loop {W H : Nat} {cell : Nat → Int32} {gl : Nat → Int64} {ki ow wa : Nat → Int32} {kk ws : Nat → Nat} (hb : BD W H cell) (hc : CR cell gl) (hkk : KK ki kk) (hw : WW wa ws) :
    ∃ t, wh (fX3_step_15 ki ow wa (nI (msU cell ws 6))) FU (nI (msU cell ws 6), (0 : Int32), (0 : Int32), nI 0, gl) = some t ∧ ∃ l b, t.1 = nI l ∧ l < 1000 ∧ CB b t.2.1 t.2.2.1 ∧ t.2.2.2 = gl ∧ BI (MG W H cell kk (fun l i => nI i = ow l)) (fun i t => msU (gone cell i t) ws 6) (msU cell ws 6) (before 64 0) l b := by
  have hms : msU cell ws 6 ≤ 390 := msU_le hw 6 (by omega)
  refine wh_inv (fun s => ∃ l b i, s.1 = nI l ∧ l < 1000 ∧ CB b s.2.1 s.2.2.1 ∧ s.2.2.2.1 = nI i ∧ i ≤ 64 ∧ s.2.2.2.2 = gl ∧ BI (MG W H cell kk (fun l i => nI i = ow l)) (fun i t => msU (gone cell i t) ws 6) (msU cell ws 6) (before i 0) l b) (fun s => 64 - s.2.2.2.1.toNatClampNeg) _ ?_ FU _ ⟨msU cell ws 6, none, 0, rfl, by omega, trivial, rfl, by omega, rfl, rfl, fun a c hp _ => by unfold before at hp; omega⟩ (by show 64 - (nI 0).toNatClampNeg < FU; have : FU = 10000 := rfl; omega)
  rintro ⟨x1, x2, x3, x4, x5⟩ ⟨l, b, i, e1, hl, hcb, e4, hi, e5, hB⟩
  dsimp only at e1 hcb e4 e5
  subst e1; subst e4; subst e5
  by_cases hlt : i < 64
  · obtain ⟨t, et, l', b', g1, g2, g3, g4, g5⟩ := step_in hb hc hkk hw hlt (nI l) x2 x3 x5 hl hB hcb
    refine Or.inl ⟨(t.1, t.2.1, t.2.2.1, nI (i + 1), t.2.2.2), ?_, ⟨l', b', i + 1, g1, g2, g3, rfl, by omega, g4, g5⟩, by show 64 - (nI (i + 1)).toNatClampNeg < 64 - (nI i).toNatClampNeg; rw [nI_clamp (by omega), nI_clamp (by omega)]; omega⟩
    unfold fX3_step_15
    dsimp only
    rw [if_neg (n64 hlt), landOf_eq hc hlt (hb.2.2 i)]
    simp only [Option.bind_some, nI_1]
    rw [show (0 : Int32) = nI 0 from rfl, et]
    rfl
  · have : i = 64 := by omega
    subst this
    exact Or.inr ⟨(nI l, x2, x3, x5), by unfold fX3_step_15; exact if_pos g64, l, b, rfl, hl, hcb, rfl, hB⟩

/-! the model's search -/
theorem LV_congr {W H : Nat} {cell : Nat → Int32} {kk l i : Nat} {p q : Prop} (h : p ↔ q) : LV W H cell kk p l i ↔ LV W H cell kk q l i := by rw [propext h]
/-- the lands' own cells, as the class and as the model hold them -/
def OWN (W H : Nat) (ow mo : Nat → Int32) : Prop := ∀ l, l < 6 → ((ow l = -9 ∧ mo l = -1) ∨ ∃ i, onb W H i ∧ ow l = nI i ∧ mo l = nI (ci8 W i))
theorem OWN.iff {W H : Nat} {ow mo : Nat → Int32} (h : WHok W H) (ho : OWN W H ow mo) {l i : Nat} (hl : l < 6) (hi : onb W H i) : (nI i = ow l ↔ mo l = nI (ci8 W i)) := by
  have hi64 := onb_lt h.2.2.2 hi
  have hci := ci_lt h hi
  have hWH := WH_le h
  rcases ho l hl with ⟨e1, e2⟩ | ⟨j, hj, e1, e2⟩
  · rw [e1, e2]
    constructor
    · intro e
      have := congrArg Int32.toInt e
      rw [nI_toInt (by omega)] at this
      have h9 : (-9 : Int32).toInt = -9 := by decide
      omega
    · intro e
      have := congrArg Int32.toInt e
      rw [nI_toInt (by omega)] at this
      have h9 : (-1 : Int32).toInt = -1 := by decide
      omega
  · have hj64 := onb_lt h.2.2.2 hj
    have hcj := ci_lt h hj
    rw [e1, e2, nI_eq (by omega) (by omega), nI_eq (by omega) (by omega)]
    constructor
    · intro e; rw [e]
    · intro e
      rw [← fi_ci h hi, ← fi_ci h hj, e]
theorem MG_own {W H : Nat} {cell ow mo : Nat → Int32} {kk : Nat → Nat} (hb : BD W H cell) (ho : OWN W H ow mo) (i t : Nat) : MG W H cell kk (fun l i => nI i = ow l) i t ↔ MG W H cell kk (fun l i => mo l = nI (ci8 W i)) i t := by
  unfold MG
  refine exists_congr (fun l => and_congr_right (fun hl => and_congr_right (fun e => and_congr_right (fun _ => and_congr_right (fun _ => and_congr_left (fun _ => LV_congr ?_))))))
  exact ho.iff hb.1 hl (hb.on hl e)
def mbefore (W H c t : Nat) : Nat → Nat → Prop := fun a k => k < 6 ∧ onb W H a ∧ (ci8 W a < c ∨ (ci8 W a = c ∧ k < t))
theorem mbefore_add {W H c t : Nat} (h : WHok W H) (hc : c < W * H) (ht : t < 6) (a k : Nat) : mbefore W H c (t + 1) a k ↔ add1 (mbefore W H c t) (fi W c) t a k := by
  unfold mbefore add1
  constructor
  · rintro ⟨h1, h2, h3⟩
    by_cases e : ci8 W a = c ∧ k = t
    · exact Or.inr ⟨by rw [← e.1, fi_ci h h2], e.2⟩
    · exact Or.inl ⟨h1, h2, by omega⟩
  · rintro (⟨h1, h2, h3⟩ | ⟨h1, h2⟩)
    · exact ⟨h1, h2, by omega⟩
    · subst h1; subst h2
      exact ⟨ht, fi_on h hc, Or.inr ⟨ci_fi h hc, by omega⟩⟩
theorem mbefore_ord {W H c t a k : Nat} (h : WHok W H) (hc : c < W * H) (hb : mbefore W H c t a k) : ¬ (fi W c < a ∨ (fi W c = a ∧ t < k)) := by
  obtain ⟨h1, h2, h3⟩ := hb
  rintro (q | ⟨q, r⟩)
  · have := ci_mono h (fi_on h hc) h2 q
    rw [ci_fi h hc] at this
    omega
  · subst q
    rw [ci_fi h hc] at h3
    omega
def MB (W : Nat) (b : Option (Nat × Nat)) (bc bl : Int32) : Prop := match b with
  | none => bc = -1
  | some q => bc = nI (ci8 W q.1) ∧ bl = nI q.2
theorem goes_in {W H : Nat} {cell ce mk mo wa : Nat → Int32} {kk ws : Nat → Nat} (hb : BD W H cell) (hm : MC W H cell ce) (hkk : KK mk kk) (hw : WW wa ws) {c l0 : Nat} (hc : c < W * H) {b0 : Option (Nat × Nat)} {bc0 bl0 : Int32} (pi me : Nat → Int32) (q1 q2 q3 : Int32) (q4 q5 q6 : Nat → Int32) (hl0 : l0 < 1000)
    (hB : BI (MG W H cell kk (fun l i => mo l = nI (ci8 W i))) (fun i t => msU (gone cell i t) ws 6) (msU cell ws 6) (mbefore W H c 0) l0 b0) (hcb : MB W b0 bc0 bl0) :
    ∃ t, wh (fX4_goesOn_29 (nI W) (nI H) mk mo wa (q1, q2, q3, nI c, q4, q5, q6)) FU (nI l0, bc0, bl0, nI 0, ce, pi, me) = some t ∧ ∃ l b, t.1 = nI l ∧ l < 1000 ∧ MB W b t.2.1 t.2.2.1 ∧ t.2.2.2.1 = ce ∧ BI (MG W H cell kk (fun l i => mo l = nI (ci8 W i))) (fun i t => msU (gone cell i t) ws 6) (msU cell ws 6) (mbefore W H (c + 1) 0) l b := by
  have h := hb.1
  have hWH := WH_le h
  have hc64 : c < 64 := by omega
  refine wh_inv (fun s => ∃ l1 b t, s.1 = nI l1 ∧ l1 < 1000 ∧ MB W b s.2.1 s.2.2.1 ∧ s.2.2.2.1 = nI t ∧ t ≤ 6 ∧ s.2.2.2.2.1 = ce ∧ BI (MG W H cell kk (fun l i => mo l = nI (ci8 W i))) (fun i t => msU (gone cell i t) ws 6) (msU cell ws 6) (mbefore W H c t) l1 b) (fun s => 6 - s.2.2.2.1.toNatClampNeg) _ ?_ FU _ ⟨l0, b0, 0, rfl, hl0, hcb, rfl, by omega, rfl, hB⟩ (by show 6 - (nI 0).toNatClampNeg < FU; have : FU = 10000 := rfl; omega)
  rintro ⟨x1, x2, x3, x4, x5, x6, x7⟩ ⟨l1, b, t, e1, hl1, hcb1, e4, ht6, e5, hB1⟩
  dsimp only at e1 hcb1 e4 e5
  subst e1; subst e4; subst e5
  by_cases ht : t < 6
  · have hmeas : 6 - (nI (t + 1)).toNatClampNeg < 6 - (nI t).toNatClampNeg := by rw [nI_clamp (by omega), nI_clamp (by omega)]; omega
    obtain ⟨pi', me', evm⟩ := mayGo_eq hb hm hkk hc ht (mo := mo) x6 x7
    rcases tf_c (MG W H cell kk (fun l i => mo l = nI (ci8 W i)) (fi W c) t) with ⟨hM, eM⟩ | ⟨hM, eM⟩
    · have hb2 : BD W H (gone cell (fi W c) t) := hb.upd (fi_on h hc) (okv_l ht)
      have hm2 : MC W H (gone cell (fi W c) t) (upd x5 c (nI t)) := MC_upd h hm hc (nI t)
      have evn := mmiss_eq hb2 hm2 hw
      have hV : msU (gone cell (fi W c) t) ws 6 ≤ 390 := msU_le hw 6 (by omega)
      by_cases hle : l1 ≤ msU (gone cell (fi W c) t) ws 6
      · refine Or.inl ⟨(nI l1, x2, x3, nI (t + 1), x5, pi', me'), ?_, ⟨l1, b, t + 1, rfl, hl1, hcb1, rfl, by omega, rfl, BI_cong (fun a k _ => (mbefore_add h hc ht a k).symm) (BI_keep hB1 (fun a k => mbefore_ord h hc) hle)⟩, hmeas⟩
        unfold fX4_goesOn_29
        dsimp only
        rw [if_neg (n6 ht), evm, eM]
        simp only [Option.bind_some, nI_1]
        rw [if_neg (by decide : ¬ (1 : Int32) = 0), if_pos (ix64 hc64), if_pos (ix64 hc64), cl64 hc64, evn]
        simp only [Option.bind_some, up_back]
        have hle' := nI_le hle (show msU (gone cell (fi W c) t) ws 6 < 2 ^ 31 by omega)
        rw [if_pos (ix64 hc64), if_pos hle', if_pos hle', if_pos hle']
      · refine Or.inl ⟨(nI (msU (gone cell (fi W c) t) ws 6), nI c, nI t, nI (t + 1), x5, pi', me'), ?_, ⟨_, some (fi W c, t), t + 1, rfl, by omega, ⟨by show nI c = nI (ci8 W (fi W c)); rw [ci_fi h hc], rfl⟩, rfl, by omega, rfl, BI_cong (fun a k _ => (mbefore_add h hc ht a k).symm) (BI_new hB1 hM (by omega))⟩, hmeas⟩
        unfold fX4_goesOn_29
        dsimp only
        rw [if_neg (n6 ht), evm, eM]
        simp only [Option.bind_some, nI_1]
        rw [if_neg (by decide : ¬ (1 : Int32) = 0), if_pos (ix64 hc64), if_pos (ix64 hc64), cl64 hc64, evn]
        simp only [Option.bind_some, up_back]
        have hle' : ¬ nI l1 ≤ nI (msU (gone cell (fi W c) t) ws 6) := nI_ge (show msU (gone cell (fi W c) t) ws 6 < l1 by omega) (by omega)
        rw [if_pos (ix64 hc64), if_neg hle', if_neg hle', if_neg hle']
    · refine Or.inl ⟨(nI l1, x2, x3, nI (t + 1), x5, pi', me'), ?_, ⟨l1, b, t + 1, rfl, hl1, hcb1, rfl, by omega, rfl, BI_cong (fun a k _ => (mbefore_add h hc ht a k).symm) (BI_skip hB1 hM)⟩, hmeas⟩
      unfold fX4_goesOn_29
      dsimp only
      rw [if_neg (n6 ht), evm, eM]
      simp only [Option.bind_some, nI_1, if_true]
  · have : t = 6 := by omega
    subst this
    refine Or.inr ⟨(nI l1, x2, x3, x5, x6, x7), by unfold fX4_goesOn_29; exact if_pos g6, l1, b, rfl, hl1, hcb1, rfl, BI_cong (fun a k _ => ?_) hB1⟩
    unfold mbefore
    constructor <;> (rintro ⟨h1, h2, h3⟩; exact ⟨h1, h2, by omega⟩)
theorem goes_loop {W H : Nat} {cell ce mk mo wa : Nat → Int32} {kk ws : Nat → Nat} (hb : BD W H cell) (hm : MC W H cell ce) (hkk : KK mk kk) (hw : WW wa ws) (pi me : Nat → Int32) :
    ∃ t, wh (fX4_goesOn_12 (nI W) (nI H) mk mo wa) FU (nI (msU cell ws 6), (-1 : Int32), (0 : Int32), nI 0, ce, pi, me) = some t ∧ ∃ l b, l < 1000 ∧ MB W b t.1 t.2.1 ∧ t.2.2.1 = ce ∧ BI (MG W H cell kk (fun l i => mo l = nI (ci8 W i))) (fun i t => msU (gone cell i t) ws 6) (msU cell ws 6) (mbefore W H (W * H) 0) l b := by
  have h := hb.1
  have hWH := WH_le h
  have hms : msU cell ws 6 ≤ 390 := msU_le hw 6 (by omega)
  refine wh_inv (fun s => ∃ l b c, s.1 = nI l ∧ l < 1000 ∧ MB W b s.2.1 s.2.2.1 ∧ s.2.2.2.1 = nI c ∧ c ≤ W * H ∧ s.2.2.2.2.1 = ce ∧ BI (MG W H cell kk (fun l i => mo l = nI (ci8 W i))) (fun i t => msU (gone cell i t) ws 6) (msU cell ws 6) (mbefore W H c 0) l b) (fun s => W * H - s.2.2.2.1.toNatClampNeg) _ ?_ FU _ ⟨msU cell ws 6, none, 0, rfl, by omega, (show MB W none (-1) 0 from rfl), rfl, by omega, rfl, rfl, fun a c hp _ => by unfold mbefore at hp; omega⟩ (by show W * H - (nI 0).toNatClampNeg < FU; have : FU = 10000 := rfl; omega)
  rintro ⟨x1, x2, x3, x4, x5, x6, x7⟩ ⟨l, b, c, e1, hl, hcb, e4, hi, e5, hB⟩
  dsimp only at e1 hcb e4 e5
  subst e1; subst e4; subst e5
  by_cases hlt : c < W * H
  · obtain ⟨t, et, l', b', g1, g2, g3, g4, g5⟩ := goes_in hb hm hkk hw hlt x6 x7 (nI l) x2 x3 x5 x6 x7 hl hB hcb
    refine Or.inl ⟨(t.1, t.2.1, t.2.2.1, nI (c + 1), t.2.2.2.1, t.2.2.2.2.1, t.2.2.2.2.2), ?_, ⟨l', b', c + 1, g1, g2, g3, rfl, by omega, g4, g5⟩, by show W * H - (nI (c + 1)).toNatClampNeg < W * H - (nI c).toNatClampNeg; rw [nI_clamp (by omega), nI_clamp (by omega)]; omega⟩
    unfold fX4_goesOn_12
    dsimp only
    rw [mulWH, if_neg (nI_ge hlt (by omega)), show (0 : Int32) = nI 0 from rfl, et]
    simp only [Option.bind_some, nI_1]
  · have : c = W * H := by omega
    subst this
    exact Or.inr ⟨(x2, x3, x5, x6, x7), by unfold fX4_goesOn_12; dsimp only; rw [mulWH, if_pos (nI_le (Nat.le_refl _) (by omega))], l, b, hl, hcb, rfl, hB⟩
theorem search_same {W H : Nat} {cell ow mo : Nat → Int32} {kk ws : Nat → Nat} (hb : BD W H cell) (ho : OWN W H ow mo) {l l' : Nat} {b b' : Option (Nat × Nat)} (h1 : BI (MG W H cell kk (fun l i => nI i = ow l)) (fun i t => msU (gone cell i t) ws 6) (msU cell ws 6) (before 64 0) l b) (h2 : BI (MG W H cell kk (fun l i => mo l = nI (ci8 W i))) (fun i t => msU (gone cell i t) ws 6) (msU cell ws 6) (mbefore W H (W * H) 0) l' b') : b = b' := by
  have e : MG W H cell kk (fun l i => mo l = nI (ci8 W i)) = MG W H cell kk (fun l i => nI i = ow l) := funext fun i => funext fun t => propext (MG_own hb ho i t).symm
  rw [e] at h2
  refine BI_one (fun i t hm => ?_) h1 h2
  obtain ⟨l, hl, e, -⟩ := hm
  have oi := hb.on hl e
  have := onb_lt hb.1.2.2.2 oi
  have := ci_lt hb.1 oi
  unfold before mbefore
  constructor
  · rintro ⟨h1, h2⟩; exact ⟨h1, oi, by omega⟩
  · rintro ⟨h1, h2, h3⟩; exact ⟨h1, by omega⟩

/-! rows of boxes: where a row starts and ends, how both sides lay one -/
def ctb (x : Int32) (k : Nat) : Int32 := (x >>> (nI k &&& 31)) &&& 1
theorem ct0 {x : Int32} {k : Nat} (h : ctb x k = 0) : (x >>> (nI k &&& 31)) &&& 1 = 0 := h
theorem ct1 {x : Int32} {k : Nat} (h : ¬ ctb x k = 0) : ¬ (x >>> (nI k &&& 31)) &&& 1 = 0 := h
/-- the place at which the row of place p starts -/
def rst (x : Int32) : Nat → Nat
  | 0 => 0
  | p + 1 => if ctb x p = 0 then rst x p else p + 1
/-- the place at which the row of place p ends -/
def RE (n : Nat) (x : Int32) (p e : Nat) : Prop := p ≤ e ∧ e < n ∧ (e + 1 = n ∨ ¬ ctb x e = 0) ∧ ∀ k, p ≤ k → k < e → ctb x k = 0
theorem RE_one {n : Nat} {x : Int32} {p e e' : Nat} (h : RE n x p e) (h' : RE n x p e') : e = e' := by
  obtain ⟨a1, a2, a3, a4⟩ := h
  obtain ⟨b1, b2, b3, b4⟩ := h'
  rcases Nat.lt_trichotomy e e' with q | q | q
  · have := b4 e a1 q
    rcases a3 with z | z
    · omega
    · exact absurd this z
  · exact q
  · have := a4 e' b1 q
    rcases b3 with z | z
    · omega
    · exact absurd this z
theorem rst_le (x : Int32) : ∀ p, rst x p ≤ p
  | 0 => Nat.le_refl 0
  | p + 1 => by
    show (if ctb x p = 0 then rst x p else p + 1) ≤ p + 1
    split
    · have := rst_le x p; omega
    · exact Nat.le_refl _
theorem rst_no (x : Int32) : ∀ p k, rst x p ≤ k → k < p → ctb x k = 0
  | 0, k, _, h => by omega
  | p + 1, k, h1, h2 => by
    by_cases q : ctb x p = 0
    · have e : rst x (p + 1) = rst x p := if_pos q
      rw [e] at h1
      by_cases z : k = p
      · rw [z]; exact q
      · exact rst_no x p k h1 (by omega)
    · have e : rst x (p + 1) = p + 1 := if_neg q
      omega
theorem rst_mid (x : Int32) : ∀ s p, rst x s ≤ p → p ≤ s → rst x p = rst x s
  | 0, p, _, h => by have : p = 0 := by omega
                     rw [this]
  | s + 1, p, h1, h2 => by
    by_cases z : p = s + 1
    · rw [z]
    · by_cases q : ctb x s = 0
      · have e : rst x (s + 1) = rst x s := if_pos q
        rw [e] at h1 ⊢
        exact rst_mid x s p h1 (by omega)
      · have e : rst x (s + 1) = s + 1 := if_neg q
        omega
theorem dS_mono {g : Nat → Nat} {a : Nat} : ∀ {b : Nat}, a ≤ b → dS g a ≤ dS g b
  | 0, h => by have : a = 0 := by omega
               rw [this]; exact Nat.le_refl _
  | b + 1, h => by
    show dS g a ≤ dS g b + g b
    by_cases q : a = b + 1
    · rw [q]; exact Nat.le_refl _
    · have := dS_mono (g := g) (a := a) (b := b) (by omega)
      omega
/-- what is laid at place p -/
def LD (n : Nat) (x : Int32) (wt : Nat → Nat) (le ab rw : Nat → Int32) (p : Nat) : Prop := ∃ e, RE n x p e ∧ le p = nI (dS wt p - dS wt (rst x p)) ∧ ab p = nI (dS wt (rst x p)) ∧ rw p = nI (dS wt (e + 1) - dS wt (rst x p))
def inr (f la : Nat) (g old : Nat → Int32) : Nat → Int32 := fun j => if f ≤ j ∧ j < la then g j else old j
theorem inr_up {f k : Nat} {g old : Nat → Int32} {v : Int32} (hv : v = g (f + k)) : upd (inr f (f + k) g old) (f + k) v = inr f (f + (k + 1)) g old := by
  funext j
  unfold inr
  by_cases q : j = f + k
  · subst q; rw [pk_us, if_pos (by omega)]; exact hv
  · rw [pk_un q]
    by_cases q2 : f ≤ j ∧ j < f + k
    · rw [if_pos q2, if_pos (by omega)]
    · rw [if_neg q2, if_neg (by omega)]
theorem inr_0 (f : Nat) (g old : Nat → Int32) : inr f (f + 0) g old = old := by
  funext j
  unfold inr
  rw [if_neg (by omega)]
theorem layRow_eq {wt : Nat → Nat} {we : Nat → Int32} {f la A : Nat} (hf : f ≤ la) (hla : la < 6) (hw : ∀ k, k ≤ la → we k = nI (wt k)) (le ab rw : Nat → Int32) :
    fX2_layRow (nI f) (nI la) (nI A) we le ab rw = some (nI (dS wt (la + 1) - dS wt f), inr f (la + 1) (fun j => nI (dS wt j - dS wt f)) le, inr f (la + 1) (fun _ => nI A) ab, inr f (la + 1) (fun _ => nI (dS wt (la + 1) - dS wt f)) rw) := by
  obtain ⟨m, rfl⟩ : ∃ m, la = f + m := ⟨la - f, by omega⟩
  have e1 : wh (fX2_layRow_10 (nI (f + m)) (nI A) we) FU (nI 0, nI f, le, ab) = some (nI (dS wt (f + m + 1) - dS wt f), inr f (f + m + 1) (fun j => nI (dS wt j - dS wt f)) le, inr f (f + m + 1) (fun _ => nI A) ab) := by
    have := wh_cnt (f := fX2_layRow_10 (nI (f + m)) (nI A) we) (fun k => (nI (dS wt (f + k) - dS wt f), nI (f + k), inr f (f + k) (fun j => nI (dS wt j - dS wt f)) le, inr f (f + k) (fun _ => nI A) ab)) (m + 1) FU (t := (nI (dS wt (f + (m + 1)) - dS wt f), inr f (f + (m + 1)) (fun j => nI (dS wt j - dS wt f)) le, inr f (f + (m + 1)) (fun _ => nI A) ab)) (fun k hk => by
      unfold fX2_layRow_10
      dsimp only
      have hm := dS_mono (g := wt) (a := f) (b := f + k) (by omega)
      rw [if_neg (nI_nlt (show f + k ≤ f + m by omega) (by omega)), if_neg (n6 (by omega)), if_pos (ix6 (by omega)), if_pos (ix6 (by omega)), if_pos (ix6 (by omega)), cl6 (show f + k < 6 by omega), hw _ (by omega), nI_add, nI_1, inr_up rfl, inr_up rfl]
      refine congrArg (fun z => some (Sum.inl (nI z, nI (f + k + 1), inr f (f + (k + 1)) (fun j => nI (dS wt j - dS wt f)) le, inr f (f + (k + 1)) (fun _ => nI A) ab))) ?_
      show dS wt (f + k) - dS wt f + wt (f + k) = (dS wt (f + k) + wt (f + k)) - dS wt f
      omega) (by
      unfold fX2_layRow_10
      dsimp only
      rw [if_pos (nI_lt (show f + m < f + (m + 1) by omega) (by omega))]) (by unfold FU; omega)
    rw [inr_0, inr_0, show f + 0 = f from rfl, Nat.sub_self] at this
    exact this
  have e2 : ∀ v : Int32 × (Nat → Int32) × (Nat → Int32), wh (fX2_layRow_65 (nI (f + m)) v) FU (nI f, rw) = some (inr f (f + m + 1) (fun _ => v.1) rw) := by
    intro v
    have := wh_cnt (f := fX2_layRow_65 (nI (f + m)) v) (fun k => (nI (f + k), inr f (f + k) (fun _ => v.1) rw)) (m + 1) FU (t := inr f (f + (m + 1)) (fun _ => v.1) rw) (fun k hk => by
      unfold fX2_layRow_65
      dsimp only
      rw [if_neg (nI_nlt (show f + k ≤ f + m by omega) (by omega)), if_neg (n6 (by omega)), if_pos (ix6 (by omega)), cl6 (show f + k < 6 by omega), nI_1, inr_up rfl]
      rfl) (by
      unfold fX2_layRow_65
      dsimp only
      rw [if_pos (nI_lt (show f + m < f + (m + 1) by omega) (by omega))]) (by unfold FU; omega)
    rw [inr_0, show f + 0 = f from rfl] at this
    exact this
  unfold fX2_layRow
  rw [if_neg (show ¬ nI f < 0 from nI_pos (by omega))]
  unfold lt
  dsimp only
  rw [show (0 : Int32) = nI 0 from rfl, e1]
  simp only [Option.bind_some]
  rw [e2]
  rfl
theorem lay_eq {n : Nat} {x : Int32} {wt : Nat → Nat} {we : Nat → Int32} (hn : n ≤ 6) (hw : ∀ k, k < n → we k = nI (wt k)) (le ab rw : Nat → Int32) :
    ∃ le' ab' rw', fX2_lay x (nI n) we le ab rw = some (le', ab', rw') ∧ ∀ p, p < n → LD n x wt le' ab' rw' p := by
  obtain ⟨t, et, ht⟩ := wh_inv (f := fX2_lay_7 x (nI n) we) (fun s => ∃ k st, s.1 = nI st ∧ s.2.1 = nI (dS wt st) ∧ s.2.2.1 = nI k ∧ k ≤ n ∧ st ≤ k ∧ (k < n → st = rst x k) ∧ (k = n → st = n) ∧ ∀ p, p < st → LD n x wt s.2.2.2.1 s.2.2.2.2.1 s.2.2.2.2.2 p) (fun s => n - s.2.2.1.toNatClampNeg) (fun t => ∀ p, p < n → LD n x wt t.1 t.2.1 t.2.2 p) (by
    rintro ⟨s1, s2, s3, s4, s5, s6⟩ ⟨k, st, e1, e2, e3, hk, hst, hr, hne, hp⟩
    dsimp only at e1 e2 e3 hp
    subst e1; subst e2; subst e3
    by_cases hlt : k < n
    · have hst2 := hr hlt
      have hm : n - (nI (k + 1)).toNatClampNeg < n - (nI k).toNatClampNeg := by rw [nI_clamp (by omega), nI_clamp (by omega)]; omega
      have close : (k + 1 = n ∨ ¬ ctb x k = 0) → ∃ s' : Int32 × Int32 × Int32 × (Nat → Int32) × (Nat → Int32) × (Nat → Int32), (fX2_layRow (nI st) (nI k) (nI (dS wt st)) we s4 s5 s6).bind (fun r42 => (some (Sum.inl (α := Int32 × Int32 × Int32 × (Nat → Int32) × (Nat → Int32) × (Nat → Int32)) (β := (Nat → Int32) × (Nat → Int32) × (Nat → Int32)) ((nI k + (1 : Int32)), (nI (dS wt st) + r42.1), (nI k + 1), r42.2.1, r42.2.2.1, r42.2.2.2)))) = some (.inl s') ∧ (∃ k' st', s'.1 = nI st' ∧ s'.2.1 = nI (dS wt st') ∧ s'.2.2.1 = nI k' ∧ k' ≤ n ∧ st' ≤ k' ∧ (k' < n → st' = rst x k') ∧ (k' = n → st' = n) ∧ ∀ p, p < st' → LD n x wt s'.2.2.2.1 s'.2.2.2.2.1 s'.2.2.2.2.2 p) ∧ n - s'.2.2.1.toNatClampNeg < n - (nI k).toNatClampNeg := by
        intro hc
        refine ⟨_, by rw [layRow_eq (wt := wt) hst (by omega) (fun j hj => hw j (by omega))]; rfl, ⟨k + 1, k + 1, nI_1 k, ?_, nI_1 k, by omega, by omega, fun q => ?_, fun q => q, fun p hp' => ?_⟩, ?_⟩
        · show nI (dS wt st) + nI (dS wt (k + 1) - dS wt st) = nI (dS wt (k + 1))
          rw [nI_add]
          have := dS_mono (g := wt) (a := st) (b := k + 1) (by omega)
          congr 1; omega
        · rcases hc with z | z
          · omega
          · exact (if_neg z).symm
        · show LD n x wt (inr st (k + 1) (fun j => nI (dS wt j - dS wt st)) s4) (inr st (k + 1) (fun _ => nI (dS wt st)) s5) (inr st (k + 1) (fun _ => nI (dS wt (k + 1) - dS wt st)) s6) p
          by_cases q : p < st
          · obtain ⟨e, h1, h2, h3, h4⟩ := hp p q
            refine ⟨e, h1, ?_, ?_, ?_⟩
            · unfold inr; rw [if_neg (by omega)]; exact h2
            · unfold inr; rw [if_neg (by omega)]; exact h3
            · unfold inr; rw [if_neg (by omega)]; exact h4
          · have hmid := rst_mid x k p (by omega) (by omega)
            refine ⟨k, ⟨by omega, hlt, hc, fun j h1 h2 => rst_no x k j (by omega) h2⟩, ?_, ?_, ?_⟩
            · unfold inr; rw [if_pos (by omega), hmid, ← hst2]
            · unfold inr; rw [if_pos (by omega), hmid, ← hst2]
            · unfold inr; rw [if_pos (by omega), hmid, ← hst2]
        · show n - (nI k + 1).toNatClampNeg < n - (nI k).toNatClampNeg
          rw [nI_1]; exact hm
      have en : nI n - (1 : Int32) = nI (n - 1) := pk_sub (b := 1) (by omega)
      by_cases q1 : k = n - 1
      · obtain ⟨s', h1, h2, h3⟩ := close (Or.inl (by omega))
        refine Or.inl ⟨s', ?_, h2, h3⟩
        unfold fX2_lay_7
        dsimp only
        rw [if_neg (nI_ge hlt (by omega)), if_pos (show nI k = nI n - 1 by rw [en, q1])]
        exact h1
      · by_cases q2 : ctb x k = 0
        · refine Or.inl ⟨(nI st, nI (dS wt st), nI (k + 1), s4, s5, s6), ?_, ⟨k + 1, st, rfl, rfl, rfl, by omega, by omega, fun _ => ?_, fun z => by omega, hp⟩, hm⟩
          · unfold fX2_lay_7
            dsimp only
            rw [if_neg (nI_ge hlt (by omega)), if_neg (show ¬ nI k = nI n - 1 by rw [en, nI_eq (by omega) (by omega)]; exact q1), if_pos (ct0 q2), nI_1]
          · rw [hst2]; exact (if_pos q2).symm
        · obtain ⟨s', h1, h2, h3⟩ := close (Or.inr q2)
          refine Or.inl ⟨s', ?_, h2, h3⟩
          unfold fX2_lay_7
          dsimp only
          rw [if_neg (nI_ge hlt (by omega)), if_neg (show ¬ nI k = nI n - 1 by rw [en, nI_eq (by omega) (by omega)]; exact q1), if_neg (ct1 q2)]
          exact h1
    · have : k = n := by omega
      subst this
      have := hne rfl
      subst this
      exact Or.inr ⟨(s4, s5, s6), by unfold fX2_lay_7; exact if_pos (Int32.le_refl _), hp⟩) FU (nI 0, nI (dS wt 0), nI 0, le, ab, rw) ⟨0, 0, rfl, rfl, rfl, by omega, by omega, fun _ => rfl, fun z => z, fun p hp => by omega⟩ (by show n - (nI 0).toNatClampNeg < FU; have : FU = 10000 := rfl; omega)
  refine ⟨t.1, t.2.1, t.2.2, ?_, ht⟩
  unfold fX2_lay
  rw [show ((0 : Int32), (0 : Int32), (0 : Int32), le, ab, rw) = (nI 0, nI (dS wt 0), nI 0, le, ab, rw) from rfl, et]
  rfl
-- the model lays one box
theorem mlay_2 (x : Int32) : ∀ p F, p < F → p < 2 ^ 31 → wh (fX4_lay_2 x) F (nI p) = some (nI (rst x p))
  | 0, F, h, _ => by
    obtain ⟨F, rfl⟩ : ∃ z, F = z + 1 := ⟨F - 1, by omega⟩
    refine wh_out ?_
    unfold fX4_lay_2
    rw [if_pos (by decide)]
    rfl
  | p + 1, F, h, hp => by
    obtain ⟨F, rfl⟩ : ∃ z, F = z + 1 := ⟨F - 1, by omega⟩
    have e1 : nI (p + 1) - (1 : Int32) = nI p := nI_pred p
    by_cases q : ctb x p = 0
    · rw [wh_in (s' := nI p) (by unfold fX4_lay_2; rw [if_neg (nI_nle (by omega) hp), e1, if_pos (ct0 q), pk_m1]), mlay_2 x p F (by omega) (by omega)]
      exact congrArg (fun z => some (nI z)) (if_pos q).symm
    · refine wh_out ?_
      unfold fX4_lay_2
      rw [if_neg (nI_nle (by omega) hp), e1, if_neg (ct1 q)]
      exact congrArg (fun z => some (Sum.inr (nI z))) (if_neg q).symm
theorem mlay_eq {n : Nat} {x : Int32} {wt : Nat → Nat} {we : Nat → Int32} (hn : n ≤ 6) (hw : ∀ k, k < n → we k = nI (wt k)) {p : Nat} (hp : p < n) (mah mrs mab : Int32) :
    ∃ e, RE n x p e ∧ fX4_lay x (nI p) (nI n) mah mrs mab we = some (nI (dS wt p - dS wt (rst x p)), nI (dS wt (e + 1) - dS wt (rst x p)), nI (dS wt (rst x p))) := by
  have hrp := rst_le x p
  have e40 : wh (fX4_lay_40 we (nI (rst x p))) FU (nI 0, nI (dS wt 0)) = some (nI (dS wt (rst x p))) := by
    refine wh_cnt (f := fX4_lay_40 we (nI (rst x p))) (fun k => (nI k, nI (dS wt k))) (rst x p) FU (fun k hk => ?_) ?_ (by unfold FU; omega)
    · unfold fX4_lay_40
      dsimp only
      rw [if_neg (nI_ge hk (by omega)), if_pos (ix6 (by omega)), cl6 (show k < 6 by omega), hw k (by omega), nI_add, nI_1]
      rfl
    · unfold fX4_lay_40
      exact if_pos (Int32.le_refl _)
  obtain ⟨t, et, e, he, h1, h2⟩ := wh_inv (f := fX4_lay_74 x (nI p) (nI n) we) (fun s => ∃ k, s.2.1 = nI k ∧ rst x p ≤ k ∧ k ≤ n ∧ s.2.2.1 = nI (dS wt (min k p) - dS wt (rst x p)) ∧ s.2.2.2 = nI (dS wt k - dS wt (rst x p)) ∧ ((s.1 = 1 ∧ ∀ j, rst x p ≤ j → j < k → j + 1 < n → ctb x j = 0) ∨ (s.1 = 0 ∧ ∃ e, k = e + 1 ∧ ¬ ctb x e = 0 ∧ RE n x p e))) (fun s => n - s.2.1.toNatClampNeg) (fun t => ∃ e, RE n x p e ∧ t.1 = nI (dS wt p - dS wt (rst x p)) ∧ t.2 = nI (dS wt (e + 1) - dS wt (rst x p))) (by
    rintro ⟨s1, s2, s3, s4⟩ ⟨k, e2, hk1, hk2, e3, e4, hg⟩
    dsimp only at e2 e3 e4 hg
    subst e2; subst e3; subst e4
    rcases hg with ⟨rfl, hno⟩ | ⟨rfl, e, rfl, hce, hRE⟩
    · by_cases hlt : k < n
      · have hm : n - (nI (k + 1)).toNatClampNeg < n - (nI k).toNatClampNeg := by rw [nI_clamp (by omega), nI_clamp (by omega)]; omega
        have m1 := dS_mono (g := wt) hk1
        have m2 := dS_mono (g := wt) (a := rst x p) (b := min k p) (by omega)
        have hno' : ctb x k = 0 → ∀ j, rst x p ≤ j → j < k + 1 → j + 1 < n → ctb x j = 0 := by
          intro q j h1 h2 h3
          by_cases z : j = k
          · rw [z]; exact q
          · exact hno j h1 (by omega) h3
        have hcut : ¬ ctb x k = 0 → RE n x p k := by
          intro q
          refine ⟨Nat.le_of_not_lt (fun z => q (rst_no x p k hk1 z)), hlt, Or.inr q, fun j h1 h2 => hno j (by omega) h2 (by omega)⟩
        have es : dS wt k - dS wt (rst x p) + wt k = dS wt (k + 1) - dS wt (rst x p) := by
          show _ = (dS wt k + wt k) - dS wt (rst x p)
          omega
        by_cases hkp : p ≤ k
        · have ek : nI (dS wt (min k p) - dS wt (rst x p)) = nI (dS wt (min (k + 1) p) - dS wt (rst x p)) := by rw [Nat.min_eq_right hkp, Nat.min_eq_right (by omega)]
          by_cases q : ctb x k = 0
          · refine Or.inl ⟨((1 : Int32), nI (k + 1), nI (dS wt (min k p) - dS wt (rst x p)), nI (dS wt (k + 1) - dS wt (rst x p))), ?_, ⟨k + 1, rfl, by omega, by omega, ek, rfl, Or.inl ⟨rfl, hno' q⟩⟩, hm⟩
            unfold fX4_lay_74
            dsimp only
            rw [if_neg (nI_ge hlt (by omega)), if_neg (by decide), if_pos (ix6 (by omega)), if_pos (nI_le hkp (by omega)), if_pos (ct0 q), nI_z, cl6 (show k < 6 by omega), hw k hlt, nI_add, es, nI_1]
          · refine Or.inl ⟨((0 : Int32), nI (k + 1), nI (dS wt (min k p) - dS wt (rst x p)), nI (dS wt (k + 1) - dS wt (rst x p))), ?_, ⟨k + 1, rfl, by omega, by omega, ek, rfl, Or.inr ⟨rfl, k, rfl, q, hcut q⟩⟩, hm⟩
            unfold fX4_lay_74
            dsimp only
            rw [if_neg (nI_ge hlt (by omega)), if_neg (by decide), if_pos (ix6 (by omega)), if_pos (nI_le hkp (by omega)), if_neg (ct1 q), nI_z, cl6 (show k < 6 by omega), hw k hlt, nI_add, es, nI_1]
        · have q : ctb x k = 0 := rst_no x p k hk1 (by omega)
          have ek : nI (dS wt (min k p) - dS wt (rst x p)) + nI (wt k) = nI (dS wt (min (k + 1) p) - dS wt (rst x p)) := by
            rw [nI_add, Nat.min_eq_left (by omega), Nat.min_eq_left (by omega), es]
          refine Or.inl ⟨((1 : Int32), nI (k + 1), nI (dS wt (min (k + 1) p) - dS wt (rst x p)), nI (dS wt (k + 1) - dS wt (rst x p))), ?_, ⟨k + 1, rfl, by omega, by omega, rfl, rfl, Or.inl ⟨rfl, hno' q⟩⟩, hm⟩
          unfold fX4_lay_74
          dsimp only
          rw [if_neg (nI_ge hlt (by omega)), if_neg (by decide), if_pos (ix6 (by omega)), if_neg (nI_ge (show k < p by omega) (by omega)), if_pos (ix6 (by omega)), if_pos (ct0 q), cl6 (show k < 6 by omega), hw k hlt, ek, nI_add, es, nI_1]
      · have : k = n := by omega
        subst this
        refine Or.inr ⟨_, by unfold fX4_lay_74; exact if_pos (Int32.le_refl _), k - 1, ⟨by omega, by omega, Or.inl (by omega), fun j h1 h2 => hno j (by omega) (by omega) (by omega)⟩, ?_, ?_⟩
        · show nI (dS wt (min k p) - dS wt (rst x p)) = _
          rw [Nat.min_eq_right (by omega)]
        · show nI (dS wt k - dS wt (rst x p)) = _
          rw [show k - 1 + 1 = k by omega]
    · refine Or.inr ⟨(nI (dS wt (min (e + 1) p) - dS wt (rst x p)), nI (dS wt (e + 1) - dS wt (rst x p))), ?_, e, hRE, ?_, rfl⟩
      · unfold fX4_lay_74
        dsimp only
        rw [if_pos rfl]
        split <;> rfl
      · have := hRE.1
        show nI (dS wt (min (e + 1) p) - dS wt (rst x p)) = _
        rw [Nat.min_eq_right (by omega)]) FU ((1 : Int32), nI (rst x p), nI 0, nI 0) ⟨rst x p, rfl, Nat.le_refl _, by omega, by rw [Nat.min_eq_left hrp, Nat.sub_self], by rw [Nat.sub_self], Or.inl ⟨rfl, fun j h1 h2 => by omega⟩⟩ (by show n - (nI (rst x p)).toNatClampNeg < FU; have : FU = 10000 := rfl; omega)
  refine ⟨e, he, ?_⟩
  unfold fX4_lay
  rw [mlay_2 x p FU (by unfold FU; omega) (by omega)]
  simp only [Option.bind_some]
  rw [show ((0 : Int32), (0 : Int32)) = (nI 0, nI (dS wt 0)) from rfl, e40]
  simp only [Option.bind_some]
  rw [show ((1 : Int32), nI (rst x p), nI 0, nI (dS wt 0)) = ((1 : Int32), nI (rst x p), nI 0, nI 0) from rfl, et]
  simp only [Option.bind_some, h1, h2]

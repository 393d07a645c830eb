/-! wholeness: what one comes to by neighbours; the class's closure -/
theorem ct_lt {p q : Nat → Bool} : ∀ {n : Nat}, (∀ k, k < n → p k = true → q k = true) → (∃ k, k < n ∧ q k = true ∧ p k = false) → fb_ct p n < fb_ct q n := by
  intro n
  induction n with
  | zero => intro _ ⟨k, h, _⟩; omega
  | succ n ih =>
    intro h ⟨k, hk, hq, hp⟩
    rw [fb_ct_succ, fb_ct_succ]
    by_cases e : k = n
    · subst e
      have := fb_ct_sub (p := p) (q := q) (n := k) (fun j hj => h j (by omega))
      rw [hq, hp]; simp; omega
    · have h1 := ih (fun j hj => h j (by omega)) ⟨k, by omega, hq, hp⟩
      have h2 := h n (by omega)
      cases e1 : p n with
      | false => simp; omega
      | true => rw [h2 e1]; simp; omega
def Reach (S : Nat → Prop) (a i : Nat) : Prop := ∀ T : Nat → Prop, T a → (∀ u v, T u → nb u v → S v → T v) → T i
theorem Reach.self {S : Nat → Prop} {a : Nat} : Reach S a a := fun _ h _ => h
theorem Reach.step {S : Nat → Prop} {a u v : Nat} (h : Reach S a u) (n : nb u v) (s : S v) : Reach S a v := fun T h1 h2 => h2 u v (h T h1 h2) n s
def Whole (S : Nat → Prop) : Prop := ∃ a, S a ∧ (∀ j, j < a → ¬ S j) ∧ ∀ i, S i → Reach S a i
theorem least_ex {S : Nat → Prop} {i : Nat} (h : S i) : ∃ a, S a ∧ ∀ j, j < a → ¬ S j := pk_least S ⟨i, h⟩
theorem Bt_neg (x : Int64) {i : Nat} (hi : i < 64) : Bt (-x) i = (Bt x i ^^ decide (∃ j, j < i ∧ Bt x j = true)) := by
  unfold Bt
  rw [Int64.toBitVec_neg, BitVec.getLsbD_neg]
  simp [hi]
theorem Bt_low (x : Int64) {i : Nat} (hi : i < 64) : Bt (x &&& -x) i = true ↔ Bt x i = true ∧ ∀ j, j < i → Bt x j = false := by
  rw [Bt_and, Bt_neg x hi]
  by_cases h : ∃ j, j < i ∧ Bt x j = true
  · obtain ⟨j, h1, h2⟩ := h
    have e : decide (∃ j, j < i ∧ Bt x j = true) = true := decide_eq_true ⟨j, h1, h2⟩
    rw [e]
    cases q : Bt x i with
    | false => simp
    | true => simp only [Bool.true_and, Bool.xor_true, Bool.not_true, true_and]; exact ⟨(fun z => by cases z), (fun z => by rw [z j h1] at h2; cases h2)⟩
  · have e : decide (∃ j, j < i ∧ Bt x j = true) = false := decide_eq_false h
    rw [e]
    cases q : Bt x i with
    | false => simp
    | true => simp only [Bool.xor_false, Bool.and_self, true_and, true_iff]; exact fun j hj => Bt_f (fun z => h ⟨j, hj, z⟩)
theorem Bt_lt {x : Int64} {i : Nat} (h : Bt x i = true) : i < 64 := by
  rcases Nat.lt_or_ge i 64 with q | q
  · exact q
  · rw [Bt_big q] at h; cases h
theorem isWhole_eq (x : Int64) : fX3_isWhole x = some (tf (Whole (fun i => Bt x i = true))) := by
  unfold fX3_isWhole
  by_cases hx : x = 0
  · subst hx
    have e : wh (fX3_isWhole_8 0) FU ((0 : Int64) &&& -0, (0 : Int32)) = some 0 := by
      show wh _ (9999 + 1) _ = _
      refine wh_out ?_
      unfold fX3_isWhole_8
      dsimp only
      rw [if_neg (by decide), show (0 : Int64) &&& -0 = 0 by decide]
      simp only [cmpP]
      rw [if_pos]
      refine Bt_ext (fun i hi => ?_)
      rw [Bt_or, Bt_and, Bt_0]; simp
    rw [e]
    show (if lg_cmp (0 : Int64) 0 = 0 then some (0 : Int32) else (if lg_cmp (0 : Int64) 0 = 0 then some 1 else some 0)) = _
    rw [if_pos (cmp0.mpr rfl), tf_f]
    rintro ⟨a, h, -⟩
    rw [Bt_0] at h; cases h
  · obtain ⟨i0, hi0, b0⟩ := Bt_ne0.mp hx
    obtain ⟨a, ha, hmin⟩ := least_ex (S := fun i => Bt x i = true) b0
    have ha64 := Bt_lt ha
    let S : Nat → Prop := fun i => Bt x i = true
    obtain ⟨t, ht, hq⟩ := wh_inv (f := fX3_isWhole_8 x)
      (fun s => ∃ k, s.2 = nI k ∧ k ≤ 64 ∧ (∀ i, Bt s.1 i = true → Bt x i = true ∧ Reach S a i) ∧ Bt s.1 a = true ∧ k + 1 ≤ fb_ct (Bt s.1) 64)
      (fun s => 64 - s.2.toNatClampNeg)
      (fun t => (∀ i, Bt t i = true → Bt x i = true ∧ Reach S a i) ∧ Bt t a = true ∧ ∀ u v, Bt t u = true → nb u v → Bt x v = true → Bt t v = true)
      (by
        rintro ⟨r, q⟩ ⟨k, hk, hk64, h1, h2, h3⟩
        dsimp only at hk h1 h2 h3 ⊢
        subst hk
        have hk' : k < 64 := by have := fb_ct_le (Bt r) 64; omega
        unfold fX3_isWhole_8
        dsimp only
        rw [if_neg (n64 hk')]
        simp only [cmpP]
        by_cases e : r ||| (fX3_around r &&& x) = r
        · refine Or.inr ⟨r, by rw [if_pos e], h1, h2, fun u v hu hn hv => ?_⟩
          have hv64 := Bt_lt hv
          rw [← e, Bt_or, Bt_and, hv, (Bt_around r hv64).mpr ⟨u, Bt_lt hu, hn, hu⟩]; simp
        · refine Or.inl ⟨_, by rw [if_neg e, nI_1], ⟨k + 1, rfl, by omega, fun i hi => ?_, by rw [Bt_or, h2]; rfl, ?_⟩, ?_⟩
          · have hi64 := Bt_lt hi
            rw [Bt_or, Bool.or_eq_true, Bt_and, Bool.and_eq_true, Bt_around r hi64] at hi
            rcases hi with hi | ⟨⟨j, hj, hn, hb⟩, hxi⟩
            · exact h1 i hi
            · exact ⟨hxi, (h1 j hb).2.step hn hxi⟩
          · have : fb_ct (Bt r) 64 < fb_ct (Bt (r ||| (fX3_around r &&& x))) 64 := by
              refine ct_lt (fun j _ hj => by rw [Bt_or, hj]; rfl) ?_
              refine Classical.byContradiction (fun z => e (Bt_ext (fun j hj => ?_)))
              cases e1 : Bt r j with
              | true => rw [Bt_or, e1]; rfl
              | false => exact Bt_f (fun y => z ⟨j, hj, y, e1⟩)
            show k + 1 + 1 ≤ fb_ct (Bt (r ||| (fX3_around r &&& x))) 64
            omega
          · rw [nI_clamp (by omega), nI_clamp (by omega)]; omega)
      FU (x &&& -x, (0 : Int32))
      ⟨0, rfl, by omega, fun i hi => by
          have hi64 := Bt_lt hi
          obtain ⟨g1, g2⟩ := (Bt_low x hi64).mp hi
          have : i = a := by
            rcases Nat.lt_trichotomy i a with q | q | q
            · exact absurd g1 (hmin i q)
            · exact q
            · have := g2 a q; rw [ha] at this; cases this
          subst this
          exact ⟨g1, Reach.self⟩, (Bt_low x ha64).mpr ⟨ha, fun j hj => Bt_f (hmin j hj)⟩, by
          have : 0 < fb_ct (Bt (x &&& -x)) 64 := fb_ct_pos.mpr ⟨a, ha64, (Bt_low x ha64).mpr ⟨ha, fun j hj => Bt_f (hmin j hj)⟩⟩
          exact this⟩ (by show 64 - (nI 0).toNatClampNeg < FU; rw [nI_clamp (by omega)]; decide)
    rw [ht]
    show (if lg_cmp x 0 = 0 then _ else if lg_cmp t x = 0 then _ else _) = _
    simp only [cmpP]
    rw [if_neg hx]
    obtain ⟨q1, q2, q3⟩ := hq
    by_cases e : t = x
    · rw [if_pos e, tf_t]
      subst e
      exact ⟨a, ha, hmin, fun i hi => (q1 i hi).2⟩
    · rw [if_neg e, tf_f]
      rintro ⟨a', ha', hm', hr⟩
      have : a' = a := by
        rcases Nat.lt_trichotomy a' a with q | q | q
        · exact absurd ha' (hmin a' q)
        · exact q
        · exact absurd ha (hm' a q)
      subst this
      exact e (Bt_ext (fun i hi => by
        cases e1 : Bt x i with
        | true => exact hr i e1 (fun i => Bt t i = true) q2 q3
        | false => exact Bt_f (fun z => by rw [(q1 i z).1] at e1; cases e1)))
theorem firstOf_eq {x : Int64} {a : Nat} (ha : Bt x a = true) (hmin : ∀ j, j < a → ¬ Bt x j = true) : fX3_firstOf x = some (nI a) := by
  have ha64 := Bt_lt ha
  show wh (fX3_firstOf_2 x) FU (nI 0) = some _
  have hb : ∀ k, k < 64 → (x &&& fX3_bit (nI k) = 0 ↔ Bt x k = false) := by
    intro k hk
    rw [Bt_eq0]
    constructor
    · intro h
      have := h k hk
      rwa [Bt_and, Bt_bit k hk hk, decide_eq_true rfl, Bool.and_true] at this
    · intro h i hi
      rw [Bt_and, Bt_bit k hk hi]
      by_cases e : i = k
      · subst e; rw [h]; rfl
      · simp [e]
  refine wh_cnt (fun k => nI k) a FU (fun k hk => ?_) ?_ (by unfold FU; omega)
  · unfold fX3_firstOf_2
    rw [if_neg (n64 (by omega)), if_pos (cmp0.mpr ((hb k (by omega)).mpr (Bt_f (hmin k hk)))), nI_1]
  · unfold fX3_firstOf_2
    rw [if_neg (n64 ha64), if_neg]
    rw [cmp0, hb a ha64, ha]; simp

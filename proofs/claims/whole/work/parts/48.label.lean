/-! label, on both sides -/
/-- the land's cells, k times eroded -/
def Er (S : Nat → Prop) : Nat → Nat → Prop
  | 0, i => S i
  | k + 1, i => Er S k i ∧ (i % 8 ≠ 0 ∧ Er S k (i - 1)) ∧ (i % 8 ≠ 7 ∧ Er S k (i + 1)) ∧ (8 ≤ i ∧ Er S k (i - 8)) ∧ Er S k (8 + i)
theorem Er_in {S : Nat → Prop} : ∀ {k i : Nat}, Er S k i → S i
  | 0, _, h => h
  | _ + 1, _, h => Er_in h.1
theorem Er_le {S : Nat → Prop} {j i : Nat} : ∀ {k : Nat}, j ≤ k → Er S k i → Er S j i
  | 0, h, e => by have : j = 0 := by omega
                  subst this; exact e
  | k + 1, h, e => by
    by_cases q : j = k + 1
    · subst q; exact e
    · exact Er_le (by omega) e.1
theorem Er_col {S : Nat → Prop} : ∀ {k i : Nat}, Er S k i → k ≤ i % 8 ∧ i % 8 + k ≤ 7
  | 0, i, _ => by omega
  | k + 1, i, e => by
    have h1 := Er_col e.2.1.2
    have h2 := Er_col e.2.2.1.2
    have h3 := e.2.1.1
    have h4 := e.2.2.1.1
    omega
theorem Er_3 {S : Nat → Prop} {k i : Nat} (h : Er S k i) : k ≤ 3 := by have := Er_col h; omega
/-- the class's loop -/
theorem label_loop {S : Nat → Prop} {x : Int64} (hS : ∀ i, S i → i < 64) (hx : ∀ i, i < 64 → (Bt x i = true ↔ S i)) (hn : ∃ i, S i) :
    ∃ y K, wh fX3_label_42 FU (x, nI 1, nI 0) = some (y, nI (K + 1)) ∧ K ≤ 3 ∧ (∀ i, i < 64 → (Bt y i = true ↔ Er S K i)) ∧ (∃ i, Er S K i) ∧ ∀ i, ¬ Er S (K + 1) i := by
  obtain ⟨t, et, K, h1, h2, h3, h4, h5⟩ := wh_inv (f := fX3_label_42) (fun s => ∃ k, s.2.1 = nI (k + 1) ∧ s.2.2 = nI k ∧ (∀ i, i < 64 → (Bt s.1 i = true ↔ Er S k i)) ∧ ∃ i, Er S k i) (fun s => 8 - s.2.2.toNatClampNeg) (fun t => ∃ K, t.2 = nI (K + 1) ∧ K ≤ 3 ∧ (∀ i, i < 64 → (Bt t.1 i = true ↔ Er S K i)) ∧ (∃ i, Er S K i) ∧ ∀ i, ¬ Er S (K + 1) i) (by
    rintro ⟨s1, s2, s3⟩ ⟨k, e2, e3, hB, hE⟩
    dsimp only at e2 e3 hB
    subst e2; subst e3
    obtain ⟨i0, hi0⟩ := hE
    have hk3 := Er_3 hi0
    have hnext : ∀ i, i < 64 → (Bt (fX3_inside s1) i = true ↔ Er S (k + 1) i) := by
      intro i hi
      have e8 : Bt s1 (8 + i) = true ↔ Er S k (8 + i) := by
        by_cases q : 8 + i < 64
        · exact hB _ q
        · rw [Bt_big (by omega)]
          exact ⟨(fun z => by cases z), fun z => absurd (hS _ (Er_in z)) q⟩
      have e1 : Bt s1 (i + 1) = true ↔ Er S k (i + 1) := by
        by_cases q : i + 1 < 64
        · exact hB _ q
        · rw [Bt_big (by omega)]
          exact ⟨(fun z => by cases z), fun z => absurd (hS _ (Er_in z)) q⟩
      rw [Bt_inside _ hi, hB i hi, hB (i - 1) (by omega), hB (i - 8) (by omega), e8, e1]
      rfl
    by_cases q : fX3_inside s1 = 0
    · refine Or.inr ⟨(s1, nI (k + 1)), ?_, k, rfl, hk3, hB, ⟨i0, hi0⟩, ?_⟩
      · unfold fX3_label_42
        dsimp only
        rw [if_neg (show ¬ (8 : Int32) ≤ nI k from nI_ge (b := 8) (by omega) (by decide)), if_pos (cmp0.mpr q)]
      · intro i hi
        have := (hnext i (hS _ (Er_in hi))).mpr hi
        rw [q, Bt_0] at this; cases this
    · refine Or.inl ⟨(fX3_inside s1, nI (k + 2), nI (k + 1)), ?_, ⟨k + 1, rfl, rfl, hnext, ?_⟩, ?_⟩
      · unfold fX3_label_42
        dsimp only
        rw [if_neg (show ¬ (8 : Int32) ≤ nI k from nI_ge (b := 8) (by omega) (by decide)), if_neg (fun z => q (cmp0.mp z)), nI_1, nI_1]
      · obtain ⟨i, hi, b⟩ := Bt_ne0.mp q
        exact ⟨i, (hnext i hi).mp b⟩
      · show 8 - (nI (k + 1)).toNatClampNeg < 8 - (nI k).toNatClampNeg
        rw [nI_clamp (by omega), nI_clamp (by omega)]
        omega) FU (x, nI 1, nI 0) ⟨0, rfl, rfl, hx, hn⟩ (by show 8 - (nI 0).toNatClampNeg < FU; have : FU = 10000 := rfl; omega)
  obtain ⟨t1, t2⟩ := t
  dsimp only at h1
  subst h1
  exact ⟨t1, K, et, h2, h3, h4, h5⟩
-- the model's depths
def dN (W H : Nat) (S : Nat → Prop) (de : Nat → Int32) (g : Nat → Nat) : Prop := ∀ c, c < W * H → de c = nI (g c) ∧ g c ≤ 100 ∧ (∀ k, Er S k (fi W c) → k < g c) ∧ (¬ S (fi W c) → g c = 0)
def dC (W H : Nat) (g : Nat → Nat) (c w : Nat) : Prop := match bs W H c w with
  | some n => g c ≤ g n + 1
  | none => g c ≤ 1
def dS (g : Nat → Nat) : Nat → Nat
  | 0 => 0
  | n + 1 => dS g n + g n
theorem dS_upd {g : Nat → Nat} {c v : Nat} : ∀ {n : Nat}, (c < n → dS (fun j => if j = c then v else g j) n + g c = dS g n + v) ∧ (n ≤ c → dS (fun j => if j = c then v else g j) n = dS g n)
  | 0 => ⟨fun h => by omega, fun _ => rfl⟩
  | n + 1 => by
    obtain ⟨h1, h2⟩ := dS_upd (g := g) (c := c) (v := v) (n := n)
    show (c < n + 1 → (dS (fun j => if j = c then v else g j) n + (if n = c then v else g n)) + g c = (dS g n + g n) + v) ∧ (n + 1 ≤ c → dS (fun j => if j = c then v else g j) n + (if n = c then v else g n) = dS g n + g n)
    constructor
    · intro h
      by_cases q : n = c
      · subst q
        rw [if_pos rfl, h2 (by omega)]
        omega
      · rw [if_neg q]
        have := h1 (by omega)
        omega
    · intro h
      rw [if_neg (by omega), h2 (by omega)]
theorem dS_le {g : Nat → Nat} : ∀ {n : Nat}, (∀ c, c < n → g c ≤ 100) → dS g n ≤ n * 100
  | 0, _ => by show 0 ≤ 0 * 100; omega
  | n + 1, h => by
    have h1 := dS_le (g := g) (n := n) (fun c hc => h c (by omega))
    have h2 := h n (by omega)
    show dS g n + g n ≤ (n + 1) * 100
    omega
theorem bs_fi {W H c w n : Nat} (h : WHok W H) (hc : c < W * H) (e : bs W H c w = some n) (hw : w < 4) : (w = 0 ∧ fi W n = fi W c + 1) ∨ (w = 1 ∧ fi W c % 8 ≠ 0 ∧ fi W n = fi W c - 1) ∨ (w = 2 ∧ fi W n = 8 + fi W c) ∨ (w = 3 ∧ 8 ≤ fi W c ∧ fi W n = fi W c - 8) := by
  obtain ⟨h1, h2, h3, h4⟩ := h
  unfold bs at e
  unfold fi
  rcases (show w = 0 ∨ w = 1 ∨ w = 2 ∨ w = 3 by omega) with rfl | rfl | rfl | rfl
  · rw [if_pos rfl] at e
    split at e
    · cases e
      rcases W8 h1 h2 with rfl | rfl | rfl | rfl | rfl | rfl | rfl | rfl <;> omega
    · cases e
  · rw [if_neg (by decide), if_pos rfl] at e
    split at e
    · cases e
      rcases W8 h1 h2 with rfl | rfl | rfl | rfl | rfl | rfl | rfl | rfl <;> omega
    · cases e
  · rw [if_neg (by decide), if_neg (by decide), if_pos rfl] at e
    split at e
    · cases e
      rcases W8 h1 h2 with rfl | rfl | rfl | rfl | rfl | rfl | rfl | rfl <;> omega
    · cases e
  · rw [if_neg (by decide), if_neg (by decide), if_neg (by decide)] at e
    split at e
    · cases e
      rcases W8 h1 h2 with rfl | rfl | rfl | rfl | rfl | rfl | rfl | rfl <;> omega
    · cases e
theorem bs_no {W H c w : Nat} (h : WHok W H) (hc : c < W * H) (e : bs W H c w = none) (hw : w < 4) : edg W H (fi W c) := (edg_bs h hc).mpr ⟨w, hw, e⟩
/-- a cell that is eroded once more has all its neighbours on the board, one less eroded -/
theorem Er_bs {W H : Nat} {S : Nat → Prop} (h : WHok W H) (hS : ∀ i, S i → onb W H i) {k c : Nat} (hc : c < W * H) : Er S (k + 1) (fi W c) ↔ Er S k (fi W c) ∧ ∀ w, w < 4 → ∃ n, bs W H c w = some n ∧ Er S k (fi W n) := by
  have hon := fi_on h hc
  have hE : ∀ {i}, Er S k i → onb W H i := fun e => hS _ (Er_in e)
  constructor
  · rintro ⟨e0, ⟨a1, e1⟩, ⟨a2, e2⟩, ⟨a3, e3⟩, e4⟩
    refine ⟨e0, fun w hw => ?_⟩
    cases eb : bs W H c w with
    | none =>
      exfalso
      have o1 := hE e1
      have o2 := hE e2
      have o3 := hE e3
      have o4 := hE e4
      have hg := bs_no h hc eb hw
      unfold edg at hg
      unfold onb at o1 o2 o3 o4 hg
      omega
    | some n =>
      refine ⟨n, rfl, ?_⟩
      rcases bs_fi h hc eb hw with ⟨-, q⟩ | ⟨-, -, q⟩ | ⟨-, q⟩ | ⟨-, -, q⟩
      · rw [q]; exact e2
      · rw [q]; exact e1
      · rw [q]; exact e4
      · rw [q]; exact e3
  · rintro ⟨e0, hw⟩
    obtain ⟨n0, b0, f0⟩ := hw 0 (by omega)
    obtain ⟨n1, b1, f1⟩ := hw 1 (by omega)
    obtain ⟨n2, b2, f2⟩ := hw 2 (by omega)
    obtain ⟨n3, b3, f3⟩ := hw 3 (by omega)
    have g0 := bs_fi h hc b0 (by omega)
    have g1 := bs_fi h hc b1 (by omega)
    have g2 := bs_fi h hc b2 (by omega)
    have g3 := bs_fi h hc b3 (by omega)
    have c0 := bs_lt h hc b0
    have q0 : fi W n0 = fi W c + 1 := by omega
    have q1 : fi W c % 8 ≠ 0 ∧ fi W n1 = fi W c - 1 := by omega
    have q2 : fi W n2 = 8 + fi W c := by omega
    have q3 : 8 ≤ fi W c ∧ fi W n3 = fi W c - 8 := by omega
    have k0 := c0.2
    unfold nb at k0
    exact ⟨e0, ⟨q1.1, q1.2 ▸ f1⟩, ⟨by omega, q0 ▸ f0⟩, ⟨q3.1, q3.2 ▸ f3⟩, q2 ▸ f2⟩
theorem dN_upd {W H : Nat} {S : Nat → Prop} {de : Nat → Int32} {g : Nat → Nat} (hd : dN W H S de g) {c v : Nat} (hv : v < g c) (hc : c < W * H) (hk : ∀ k, Er S k (fi W c) → k < v) : dN W H S (upd de c (nI v)) (fun j => if j = c then v else g j) := by
  intro j hj
  obtain ⟨a1, a2, a3, a4⟩ := hd j hj
  by_cases q : j = c
  · subst q
    rw [pk_us]
    dsimp only
    rw [if_pos rfl]
    refine ⟨rfl, by omega, hk, fun z => ?_⟩
    have := a4 z
    omega
  · rw [pk_un q]
    dsimp only
    rw [if_neg q]
    exact ⟨a1, a2, a3, a4⟩
theorem sound_step {W H : Nat} {S : Nat → Prop} (h : WHok W H) (hS : ∀ i, S i → onb W H i) {de : Nat → Int32} {g : Nat → Nat} (hd : dN W H S de g) {c w : Nat} (hc : c < W * H) (hw : w < 4) (ch q1 : Int32) (q2 : Nat → Int32) :
    ∃ ch' de' g', fX4_sound_69 (nI W) (nI H) (q1, nI c, q2) (ch, nI w, de) = some (.inl (ch', nI (w + 1), de')) ∧ dN W H S de' g' ∧ ((ch' = ch ∧ g' = g ∧ dC W H g c w) ∨ (ch' = 1 ∧ dS g' (W * H) < dS g (W * H))) := by
  have hWH := WH_le h
  obtain ⟨a1, a2, a3, a4⟩ := hd c hc
  cases eb : bs W H c w with
  | none =>
    have hoi : ¬ 0 ≤ oI none := by decide
    by_cases q : g c ≤ 1
    · refine ⟨ch, de, g, ?_, hd, Or.inl ⟨rfl, rfl, by unfold dC; rw [eb]; exact q⟩⟩
      unfold fX4_sound_69
      dsimp only
      rw [if_neg (n4 hw), beside_eq h hc hw, eb]
      simp only [Option.bind_some]
      rw [if_neg hoi, if_pos (ix64 (by omega)), cl64 (by omega), if_pos (show de c ≤ 1 by rw [a1]; exact nI_le (b := 1) q (by omega)), nI_1]
    · refine ⟨1, upd de c (nI 1), fun j => if j = c then 1 else g j, ?_, dN_upd hd (by omega) hc (fun k hk => ?_), Or.inr ⟨rfl, ?_⟩⟩
      · unfold fX4_sound_69
        dsimp only
        rw [if_neg (n4 hw), beside_eq h hc hw, eb]
        simp only [Option.bind_some]
        rw [if_neg hoi, if_pos (ix64 (by omega)), cl64 (by omega), if_neg (show ¬ de c ≤ 1 by rw [a1]; exact nI_ge (b := g c) (a := 1) (by omega) (by omega)), if_pos (ix64 (by omega)), nI_1]
        rfl
      · cases k with
        | zero => omega
        | succ k =>
          obtain ⟨n, en, -⟩ := ((Er_bs h hS hc).mp hk).2 w hw
          rw [eb] at en; cases en
      · have := (dS_upd (g := g) (c := c) (v := 1) (n := W * H)).1 hc
        omega
  | some n =>
    have hn := (bs_lt h hc eb).1
    obtain ⟨b1, b2, b3, b4⟩ := hd n hn
    have hoi : 0 ≤ oI (some n) := nI_pos' (by omega)
    by_cases q : g c ≤ g n + 1
    · refine ⟨ch, de, g, ?_, hd, Or.inl ⟨rfl, rfl, by unfold dC; rw [eb]; exact q⟩⟩
      unfold fX4_sound_69
      dsimp only
      rw [if_neg (n4 hw), beside_eq h hc hw, eb]
      simp only [Option.bind_some]
      rw [if_pos hoi]
      show (if ix (nI n) 64 = true then (lt (de (nI n).toNatClampNeg + 1) _) else none) = _
      rw [if_pos (ix64 (by omega)), cl64 (by omega), b1, nI_1]
      unfold lt
      dsimp only
      rw [if_pos (ix64 (show c < 64 by omega)), cl64 (show c < 64 by omega), if_pos (show de c ≤ nI (g n + 1) by rw [a1]; exact nI_le q (by omega)), nI_1]
    · refine ⟨1, upd de c (nI (g n + 1)), fun j => if j = c then g n + 1 else g j, ?_, dN_upd hd (by omega) hc (fun k hk => ?_), Or.inr ⟨rfl, ?_⟩⟩
      · unfold fX4_sound_69
        dsimp only
        rw [if_neg (n4 hw), beside_eq h hc hw, eb]
        simp only [Option.bind_some]
        rw [if_pos hoi]
        show (if ix (nI n) 64 = true then (lt (de (nI n).toNatClampNeg + 1) _) else none) = _
        rw [if_pos (ix64 (by omega)), cl64 (by omega), b1, nI_1]
        unfold lt
        dsimp only
        rw [if_pos (ix64 (show c < 64 by omega)), cl64 (show c < 64 by omega), if_neg (show ¬ de c ≤ nI (g n + 1) by rw [a1]; exact nI_ge (show g n + 1 < g c by omega) (by omega)), if_pos (ix64 (show c < 64 by omega)), nI_1]
      · cases k with
        | zero => omega
        | succ k =>
          obtain ⟨n', en, e'⟩ := ((Er_bs h hS hc).mp hk).2 w hw
          rw [eb] at en; cases en
          have := b3 k e'
          omega
      · have := (dS_upd (g := g) (c := c) (v := g n + 1) (n := W * H)).1 hc
        omega

/-! the world of the law: the class, its years, the model -/
abbrev YT : Type := Nat × Nat × Int32 × Int32 × (Nat → Int64)
def yM (g : GG) (o : Option YT) : va_W := match o with
  | none => []
  | some q => [(q.1, .inr (0, [.ref q.2.1, .int q.2.2.1, .int q.2.2.2.1])), (q.2.1, .inl (g.2.2.1, 6, .inr (.inl q.2.2.2.2)))]
def yG (g : GG) (ys : Nat → Option YT) : va_W := yM g (ys 0) ++ (yM g (ys 1) ++ (yM g (ys 2) ++ yM g (ys 3)))
def yBut (ys : Nat → Option YT) (y : Nat) : Nat → Option YT := fun i => if i = y then none else ys i
def yPut (ys : Nat → Option YT) (y : Nat) (q : YT) : Nat → Option YT := fun i => if i = y then some q else ys i
theorem yBut_put (ys : Nat → Option YT) (y : Nat) (q : YT) : yBut (yPut ys y q) y = yBut ys y := by
  funext i
  unfold yBut yPut
  by_cases h : i = y
  · rw [if_pos h, if_pos h]
  · rw [if_neg h, if_neg h, if_neg h]
theorem yPut_at (ys : Nat → Option YT) (y : Nat) (q : YT) : yPut ys y q y = some q := if_pos rfl
theorem yG_at (g : GG) (ys : Nat → Option YT) {y : Nat} (hy : y < 4) : (yG g ys).Perm (yM g (ys y) ++ yG g (yBut ys y)) := by
  have sw : ∀ (x1 x2 x3 : va_W), (x1 ++ (x2 ++ x3)).Perm (x2 ++ (x1 ++ x3)) := fun x1 x2 x3 => by
    rw [← List.append_assoc, ← List.append_assoc]
    exact List.Perm.append_right _ List.perm_append_comm
  rcases (show y = 0 ∨ y = 1 ∨ y = 2 ∨ y = 3 by omega) with rfl | rfl | rfl | rfl
  · exact List.Perm.refl _
  · exact sw (yM g (ys 0)) (yM g (ys 1)) (yM g (ys 2) ++ yM g (ys 3))
  · exact (List.Perm.append_left (yM g (ys 0)) (sw (yM g (ys 1)) (yM g (ys 2)) (yM g (ys 3)))).trans (sw (yM g (ys 0)) (yM g (ys 2)) (yM g (ys 1) ++ yM g (ys 3)))
  · show (yM g (ys 0) ++ (yM g (ys 1) ++ (yM g (ys 2) ++ yM g (ys 3)))).Perm (yM g (ys 3) ++ (yM g (ys 0) ++ (yM g (ys 1) ++ (yM g (ys 2) ++ []))))
    rw [List.append_nil, ← List.append_assoc, ← List.append_assoc]
    refine List.perm_append_comm.trans ?_
    rw [List.append_assoc]
def RYo (y : Nat) (o : Option YT) (mhy myw myh myr : Nat → Int32) : Prop := match o with
  | none => mhy y = 0
  | some q => mhy y = 1 ∧ YR y q.2.2.1 q.2.2.2.1 q.2.2.2.2 myw myh myr
def cY (g : GG) (a : Nat → Nat) (yy : Nat → Option Nat) : Nat × va_E := (a 12, .inl (g.2.2.2.2, 4, .inr (.inr (.inr (.inr yy)))))
def LW (g : GG) (a a2 : Nat → Nat) (ask : Int64) (gw : Int32) (gh : Int32) (gl : Nat → Int64) (top : Int32) (kep : Int32) (don : Int32) (vc : Nat → Int32) (vf : Nat → Int32) (bx : Int32) (tt : Int32) (pl : Nat → Int32) (we : Nat → Int32) (le : Nat → Int32) (ab : Nat → Int32) (rw : Nat → Int32) (ki : Nat → Int32) (ow : Nat → Int32) (wa : Nat → Int32) (yy : Nat → Option Nat) (mw : Int32) (mh : Int32) (mke : Int32) (mnx : Int32) (mdo : Int32) (mtr : Int64) (mma : Int32) (mto : Int32) (mah : Int32) (mrs : Int32) (mab : Int32) (ce : Nat → Int32) (mk : Nat → Int32) (mo : Nat → Int32) (mwa : Nat → Int32) (mmc : Nat → Int32) (mmf : Nat → Int32) (mhy : Nat → Int32) (myw : Nat → Int32) (myh : Nat → Int32) (myr : Nat → Int32) (mpi : Nat → Int32) (mme : Nat → Int32) (mde : Nat → Int32) (mwe : Nat → Int32) (mla : Nat → Int32) (ys : Nat → Option YT) : va_W := wB g a ask gw gh gl top kep don vc vf bx tt pl we le ab rw ki ow wa ++ (cY g a yy :: (yG g ys ++ wM g a2 mw mh mke mnx mdo mtr mma mto mah mrs mab ce mk mo mwa mmc mmf mhy myw myh myr mpi mme mde mwe mla))
/-- what holds at the head of the loop -/
def LI (g : GG) (a a2 : Nat → Nat) (A : Nat → Prop) (n : Nat) (H : Heap) : Prop := ∃ (ask : Int64) (gw : Int32) (gh : Int32) (gl : Nat → Int64) (top : Int32) (kep : Int32) (don : Int32) (vc : Nat → Int32) (vf : Nat → Int32) (bx : Int32) (tt : Int32) (pl : Nat → Int32) (we : Nat → Int32) (le : Nat → Int32) (ab : Nat → Int32) (rw : Nat → Int32) (ki : Nat → Int32) (ow : Nat → Int32) (wa : Nat → Int32) (yy : Nat → Option Nat) (mw : Int32) (mh : Int32) (mke : Int32) (mnx : Int32) (mdo : Int32) (mtr : Int64) (mma : Int32) (mto : Int32) (mah : Int32) (mrs : Int32) (mab : Int32) (ce : Nat → Int32) (mk : Nat → Int32) (mo : Nat → Int32) (mwa : Nat → Int32) (mmc : Nat → Int32) (mmf : Nat → Int32) (mhy : Nat → Int32) (myw : Nat → Int32) (myh : Nat → Int32) (myr : Nat → Int32) (mpi : Nat → Int32) (mme : Nat → Int32) (mde : Nat → Int32) (mwe : Nat → Int32) (mla : Nat → Int32) (ys : Nat → Option YT), BoR (64 * n) ask gw gh gl top kep don vc vf ki ow wa mw mh mke mnx mdo mtr ce mk mo mwa mmc mmf ∧ (∀ i, yy i = (ys i).map (fun q => q.1)) ∧ (∀ i, 4 ≤ i → ys i = none) ∧ (∀ y, y < 4 → RYo y (ys y) mhy myw myh myr) ∧ va_P g.1 vwCl (LW g a a2 ask gw gh gl top kep don vc vf bx tt pl we le ab rw ki ow wa yy mw mh mke mnx mdo mtr mma mto mah mrs mab ce mk mo mwa mmc mmf mhy myw myh myr mpi mme mde mwe mla ys) H ∧ va_D A (LW g a a2 ask gw gh gl top kep don vc vf bx tt pl we le ab rw ki ow wa yy mw mh mke mnx mdo mtr mma mto mah mrs mab ce mk mo mwa mmc mmf mhy myw myh myr mpi mme mde mwe mla ys)
theorem p_back {c : Nat × va_E} {m x y : va_W} : (x ++ (c :: (y ++ m))).Perm (m ++ (x ++ (c :: y))) := by
  have e : x ++ (c :: (y ++ m)) = (x ++ (c :: y)) ++ m := by rw [List.append_assoc]; rfl
  rw [e]
  exact List.perm_append_comm
theorem m_B {c : Nat × va_E} {m x y : va_W} : ∀ q ∈ x, q ∈ x ++ (c :: (y ++ m)) := fun q h => List.mem_append_left _ h
theorem m_M {c : Nat × va_E} {m x y : va_W} : ∀ q ∈ m, q ∈ x ++ (c :: (y ++ m)) := fun q h => List.mem_append_right _ (List.mem_cons_of_mem _ (List.mem_append_right _ h))
def LCx (p : Program) (s : State) (m : MethodId) (args : Array Value) (c : Code) (b L : Nat) (xs : Nat → Int32) : Prop := p.tables.exec = Jvm.exec ∧ c.code = cL_law ∧ c.maxLocals = 4 ∧ s.vm.findClass RL = some m.cls ∧ (∀ w ∈ wsL_law, w.before args s = true) ∧ va_X b L xs s s.heap ∧ b < s.heap.size ∧ L ≤ 2560

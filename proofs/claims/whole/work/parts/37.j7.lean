/-! both sides: count -/
def zdn (sh : List zSh) : Nat → Nat
  | 0 => 0
  | k + 1 => if (zg sh k zs0).2.2.2.2.2.1 = -nI 1 then zdn sh k else zdn sh k + 1
theorem zdn_le {sh : List zSh} : ∀ k, zdn sh k ≤ k := by
  intro k
  induction k with
  | zero => exact Nat.le_refl _
  | succ k ih => unfold zdn; split <;> omega
theorem X_done {b : Bool} {d : Nat} {Q : zQ} {S : zSt} {σ : zV} {n : Nat} (h : RX S σ) (hI : zI n S) (hQ : Q (some (.int (nI (zdn (sSh S) (sSh S).length)))) σ) : zCall (zUn b) (d + 2) yX3_howManyDone [.ref 20] σ Q := by
  have hl := hI.1.2.2.2.2.2.2.1.1
  have h20 : σ 20 0 = nI (sSh S).length := h.2.2.2.2.2.2.2.2.1.1
  have loop : ∀ m j, m + j = (sSh S).length → eX3_howManyDone b (d + 1) Q 4 [.ref 20, .int (nI (zdn (sSh S) j)), .int (nI j)] [] σ := by
    intro m
    induction m with
    | zero =>
      intro j hj
      rw [bX3_howManyDone_4, h20, show j = (sSh S).length by omega]
      exact ⟨fun _ => hQ, fun q => absurd (Int32.le_refl _) q⟩
    | succ m ih =>
      intro j hj
      have h27 : σ 27 j = nI (zmask (zg (sSh S) j zs0).2.2.2.2.2.2) := (h.2.2.2.2.2.2.2.2.1.2 j (by omega)).2.2.2.2.2.2
      have hdn := (hI.1.2.2.2.2.2.2.1.2.1 _ (zg_mem (x := zs0) (show j < (sSh S).length by omega))).2.2.2.2
      have hm := zmask_lt (w := (zg (sSh S) j zs0).2.2.2.2.2.2)
      have i := ih (j + 1) (by omega)
      rw [bX3_howManyDone_4, h20]
      simp (disch := omega) only [nI_add, nI_clamp, nI_leE, nI_eqE, vp_inE, h27]
      refine ⟨fun q => absurd q (by omega), fun _ => ⟨by omega, fun q => ?_, fun q => ?_⟩⟩
      · have e : zdn (sSh S) (j + 1) = zdn (sSh S) j := by
          show (if _ then _ else _) = _
          rw [if_pos (hdn.mpr (zmask_n0.mp q))]
        rw [e] at i
        exact i
      · have e : zdn (sSh S) (j + 1) = zdn (sSh S) j + 1 := by
          show (if _ then _ else _) = _
          rw [if_neg (fun z => zmask_n0.mpr (hdn.mp z) q)]
        rw [e] at i
        exact i
  rw [nX3_howManyDone, bX3_howManyDone_0]
  exact loop (sSh S).length 0 rfl
theorem M_count {d : Nat} {Q : zQ} {S : zSt} {σ : zV} {n : Nat} {v : Int32} (h : RM S σ) (hI : zI n S) (hQ : eX6_count (d + 1) Q 4 [.ref 28, .int v, .int (nI (zdn (sSh S) (sSh S).length)), .int (nI (sSh S).length)] [] σ) : zCall (zUn true) (d + 2) yX6_count [.ref 28, .int v] σ Q := by
  have hl := hI.1.2.2.2.2.2.2.1.1
  have h16 : σ 28 16 = nI (sSh S).length := h.2.2.2.2.2.2.2.2.1
  have loop : ∀ m j, m + j = (sSh S).length → eX6_count (d + 1) Q 4 [.ref 28, .int v, .int (nI (zdn (sSh S) j)), .int (nI j)] [] σ := by
    intro m
    induction m with
    | zero =>
      intro j hj
      rw [show j = (sSh S).length by omega]
      exact hQ
    | succ m ih =>
      intro j hj
      have h46 : σ 46 j = (zg (sSh S) j zs0).2.2.2.2.2.1 := (h.2.2.2.2.2.2.2.2.2 j (by omega)).2.2.2.2.2.1
      have i := ih (j + 1) (by omega)
      have in40 : vp_in (nI j) 40 := by rw [vp_inE (by omega)]; omega
      have cl : (nI j).toNatClampNeg = j := nI_clamp (by omega)
      have nl : ¬ nI (sSh S).length ≤ nI j := by rw [nI_leE (by omega) (by omega)]; omega
      rw [bX6_count_4, h16]
      simp only [nl, in40, cl, h46, nI_add, Nat.add_zero, Nat.one_ne_zero, Bool.true_eq_false, Bool.false_eq_true, true_implies, false_implies, not_true_eq_false, not_false_eq_true, true_and, and_true, eq_self, implies_true, z_toL, z_toN, List.cons_append, List.nil_append]
      refine ⟨fun q => ?_, fun q => ?_⟩
      · have e : zdn (sSh S) (j + 1) = zdn (sSh S) j + 1 := by
          show (if _ then _ else _) = _
          rw [if_neg q]
        rw [e] at i
        exact i
      · have e : zdn (sSh S) (j + 1) = zdn (sSh S) j := by
          show (if _ then _ else _) = _
          rw [if_pos q]
        rw [e] at i
        exact i
  rw [nX6_count, bX6_count_0]
  exact loop (sSh S).length 0 rfl
theorem J_count {n : Nat} {σ : zV} (h : Rel n σ) (v1 : Int32) : zJ yX5_count yX6_count [.int v1] σ n := by
  have h' := h
  obtain ⟨S, hX, hM, hI⟩ := h
  have hnc1 := hI.1.1.1
  have hnc := hI.1.1.2
  have k5 : σ 0 5 = nI (sNc S) := hX.1
  have k0 : σ 28 0 = nI (sNc S) := hM.1
  have k6 : σ 0 6 = sSc S 1 := hX.2.1.1
  have k1 : σ 28 1 = sSc S 1 := hM.2.1.1
  have hsub : nI (sNc S) - nI 1 = nI (sNc S - 1) := pk_sub (by omega)
  unfold zJ
  have k16 : σ 28 16 = nI (sSh S).length := hM.2.2.2.2.2.2.2.2.1
  have k20 : σ 20 0 = nI (sSh S).length := hX.2.2.2.2.2.2.2.2.1.1
  obtain ⟨x1, x2, x3, x4, x5, x6, x7, x8, x9⟩ := hX.2.1
  obtain ⟨m1, m2, m3, m4, m5, m6, m7, m8, m9⟩ := hM.2.1
  have nl : nI (sSh S).length ≤ nI (sSh S).length := Int32.le_refl _
  rcases zix v1 13 (by omega) (by omega) with g | ⟨g1, g2, g3⟩ | ⟨j, hj, rfl⟩
  · have e0 := zne (i := 0) (n := 13) (Or.inl g) (by omega) (by omega)
    have e1 := zne (i := 1) (n := 13) (Or.inl g) (by omega) (by omega)
    have e2 := zne (i := 2) (n := 13) (Or.inl g) (by omega) (by omega)
    have e3 := zne (i := 3) (n := 13) (Or.inl g) (by omega) (by omega)
    have e4 := zne (i := 4) (n := 13) (Or.inl g) (by omega) (by omega)
    have e5 := zne (i := 5) (n := 13) (Or.inl g) (by omega) (by omega)
    have e6 := zne (i := 6) (n := 13) (Or.inl g) (by omega) (by omega)
    have e7 := zne (i := 7) (n := 13) (Or.inl g) (by omega) (by omega)
    have e8 := zne (i := 8) (n := 13) (Or.inl g) (by omega) (by omega)
    have e9 := zne (i := 9) (n := 13) (Or.inl g) (by omega) (by omega)
    have o := zoutk (k := 10) (n := 13) (Or.inl g) (by omega) (by omega)
    have p := zoutm (k := 10) (n := 13) (Or.inl g) (by omega) (by omega)
    have mm : zCall (zUn true) 8 yX6_count [.ref 28, .int v1] σ (fun v' σ2 => ∃ r, some (Value.int (-nI 102)) = some (Value.int r) ∧ v' = some (Value.int r) ∧ Rel n σ2) := by
      refine M_count (d := 6) hM hI ?_
      rw [bX6_count_4, k16]
      simp only [nl, e0, e1, e2, e3, e4, e5, e6, e7, e8, e9, Nat.one_ne_zero, Bool.true_eq_false, Bool.false_eq_true, true_implies, false_implies, not_true_eq_false, not_false_eq_true, true_and, and_true, eq_self, implies_true, z_toL, z_toN, List.cons_append, List.nil_append]
      rcases p with p | ⟨p1, p2⟩
      · exact ⟨fun _ => ⟨_, rfl, rfl, h'⟩, fun q => absurd p q⟩
      · exact ⟨fun q => absurd q p1, fun _ => ⟨fun _ => ⟨_, rfl, rfl, h'⟩, fun q => absurd p2 q⟩⟩
    rw [nX5_count, bX5_count_0]
    simp only [e0, e1, e2, e3, e4, e5, e6, e7, e8, e9, Nat.one_ne_zero, Bool.true_eq_false, Bool.false_eq_true, true_implies, false_implies, not_true_eq_false, not_false_eq_true, true_and, and_true, eq_self, implies_true, z_toL, z_toN, List.cons_append, List.nil_append]
    rcases o with o | ⟨o1, o2, o3⟩
    · exact ⟨fun _ => mm, fun q => absurd o q⟩
    · exact ⟨fun q => absurd q o1, fun _ => ⟨fun _ => mm, fun q => absurd o2 q⟩⟩
  · have e0 := zne (i := 0) (n := 13) (Or.inr ⟨g1, g2, g3⟩) (by omega) (by omega)
    have e1 := zne (i := 1) (n := 13) (Or.inr ⟨g1, g2, g3⟩) (by omega) (by omega)
    have e2 := zne (i := 2) (n := 13) (Or.inr ⟨g1, g2, g3⟩) (by omega) (by omega)
    have e3 := zne (i := 3) (n := 13) (Or.inr ⟨g1, g2, g3⟩) (by omega) (by omega)
    have e4 := zne (i := 4) (n := 13) (Or.inr ⟨g1, g2, g3⟩) (by omega) (by omega)
    have e5 := zne (i := 5) (n := 13) (Or.inr ⟨g1, g2, g3⟩) (by omega) (by omega)
    have e6 := zne (i := 6) (n := 13) (Or.inr ⟨g1, g2, g3⟩) (by omega) (by omega)
    have e7 := zne (i := 7) (n := 13) (Or.inr ⟨g1, g2, g3⟩) (by omega) (by omega)
    have e8 := zne (i := 8) (n := 13) (Or.inr ⟨g1, g2, g3⟩) (by omega) (by omega)
    have e9 := zne (i := 9) (n := 13) (Or.inr ⟨g1, g2, g3⟩) (by omega) (by omega)
    have o := zoutk (k := 10) (n := 13) (Or.inr ⟨g1, g2, g3⟩) (by omega) (by omega)
    have p := zoutm (k := 10) (n := 13) (Or.inr ⟨g1, g2, g3⟩) (by omega) (by omega)
    have mm : zCall (zUn true) 8 yX6_count [.ref 28, .int v1] σ (fun v' σ2 => ∃ r, some (Value.int (-nI 102)) = some (Value.int r) ∧ v' = some (Value.int r) ∧ Rel n σ2) := by
      refine M_count (d := 6) hM hI ?_
      rw [bX6_count_4, k16]
      simp only [nl, e0, e1, e2, e3, e4, e5, e6, e7, e8, e9, Nat.one_ne_zero, Bool.true_eq_false, Bool.false_eq_true, true_implies, false_implies, not_true_eq_false, not_false_eq_true, true_and, and_true, eq_self, implies_true, z_toL, z_toN, List.cons_append, List.nil_append]
      rcases p with p | ⟨p1, p2⟩
      · exact ⟨fun _ => ⟨_, rfl, rfl, h'⟩, fun q => absurd p q⟩
      · exact ⟨fun q => absurd q p1, fun _ => ⟨fun _ => ⟨_, rfl, rfl, h'⟩, fun q => absurd p2 q⟩⟩
    rw [nX5_count, bX5_count_0]
    simp only [e0, e1, e2, e3, e4, e5, e6, e7, e8, e9, Nat.one_ne_zero, Bool.true_eq_false, Bool.false_eq_true, true_implies, false_implies, not_true_eq_false, not_false_eq_true, true_and, and_true, eq_self, implies_true, z_toL, z_toN, List.cons_append, List.nil_append]
    rcases o with o | ⟨o1, o2, o3⟩
    · exact ⟨fun _ => mm, fun q => absurd o q⟩
    · exact ⟨fun q => absurd q o1, fun _ => ⟨fun _ => mm, fun q => absurd o2 q⟩⟩
  · have hj' : j = 0 ∨ j = 1 ∨ j = 2 ∨ j = 3 ∨ j = 4 ∨ j = 5 ∨ j = 6 ∨ j = 7 ∨ j = 8 ∨ j = 9 ∨ (10 ≤ j ∧ j < 13) := by omega
    rcases hj' with rfl | rfl | rfl | rfl | rfl | rfl | rfl | rfl | rfl | rfl | ⟨h4, h7⟩
    · rw [nX5_count, bX5_count_0]
      simp (disch := omega) only [nI_eqE, Nat.reduceEqDiff, Nat.one_ne_zero, Bool.true_eq_false, Bool.false_eq_true, true_implies, false_implies, not_true_eq_false, not_false_eq_true, true_and, and_true, eq_self, implies_true, z_toL, z_toN, List.cons_append, List.nil_append]
      refine M_count (d := 6) hM hI ?_
      rw [bX6_count_4]
      simp (disch := omega) only [k16, nl, nI_eqE, Nat.reduceEqDiff, Nat.one_ne_zero, Bool.true_eq_false, Bool.false_eq_true, true_implies, false_implies, not_true_eq_false, not_false_eq_true, true_and, and_true, eq_self, implies_true, z_toL, z_toN, List.cons_append, List.nil_append]
      rw [k5, k0]
      exact ⟨_, rfl, rfl, h'⟩
    · rw [nX5_count, bX5_count_0]
      simp (disch := omega) only [nI_eqE, Nat.reduceEqDiff, Nat.one_ne_zero, Bool.true_eq_false, Bool.false_eq_true, true_implies, false_implies, not_true_eq_false, not_false_eq_true, true_and, and_true, eq_self, implies_true, z_toL, z_toN, List.cons_append, List.nil_append]
      refine M_count (d := 6) hM hI ?_
      rw [bX6_count_4]
      simp (disch := omega) only [k16, nl, nI_eqE, Nat.reduceEqDiff, Nat.one_ne_zero, Bool.true_eq_false, Bool.false_eq_true, true_implies, false_implies, not_true_eq_false, not_false_eq_true, true_and, and_true, eq_self, implies_true, z_toL, z_toN, List.cons_append, List.nil_append]
      rw [x1, m1]
      exact ⟨_, rfl, rfl, h'⟩
    · rw [nX5_count, bX5_count_0]
      simp (disch := omega) only [nI_eqE, Nat.reduceEqDiff, Nat.one_ne_zero, Bool.true_eq_false, Bool.false_eq_true, true_implies, false_implies, not_true_eq_false, not_false_eq_true, true_and, and_true, eq_self, implies_true, z_toL, z_toN, List.cons_append, List.nil_append]
      refine M_count (d := 6) hM hI ?_
      rw [bX6_count_4]
      simp (disch := omega) only [k16, nl, nI_eqE, Nat.reduceEqDiff, Nat.one_ne_zero, Bool.true_eq_false, Bool.false_eq_true, true_implies, false_implies, not_true_eq_false, not_false_eq_true, true_and, and_true, eq_self, implies_true, z_toL, z_toN, List.cons_append, List.nil_append]
      rw [k20]
      exact ⟨_, rfl, rfl, h'⟩
    · rw [nX5_count, bX5_count_0]
      simp (disch := omega) only [nI_eqE, Nat.reduceEqDiff, Nat.one_ne_zero, Bool.true_eq_false, Bool.false_eq_true, true_implies, false_implies, not_true_eq_false, not_false_eq_true, true_and, and_true, eq_self, implies_true, z_toL, z_toN, List.cons_append, List.nil_append]
      refine X_done (d := 5) hX hI ?_
      simp only [z_toL, List.cons_append, List.nil_append]
      rw [bX5_count_81]
      refine M_count (d := 6) hM hI ?_
      rw [bX6_count_4]
      simp (disch := omega) only [k16, nl, nI_eqE, Nat.reduceEqDiff, Nat.one_ne_zero, Bool.true_eq_false, Bool.false_eq_true, true_implies, false_implies, not_true_eq_false, not_false_eq_true, true_and, and_true, eq_self, implies_true, z_toL, z_toN, List.cons_append, List.nil_append]
      exact ⟨_, rfl, rfl, h'⟩
    · rw [nX5_count, bX5_count_0]
      simp (disch := omega) only [nI_eqE, Nat.reduceEqDiff, Nat.one_ne_zero, Bool.true_eq_false, Bool.false_eq_true, true_implies, false_implies, not_true_eq_false, not_false_eq_true, true_and, and_true, eq_self, implies_true, z_toL, z_toN, List.cons_append, List.nil_append]
      refine M_count (d := 6) hM hI ?_
      rw [bX6_count_4]
      simp (disch := omega) only [k16, nl, nI_eqE, Nat.reduceEqDiff, Nat.one_ne_zero, Bool.true_eq_false, Bool.false_eq_true, true_implies, false_implies, not_true_eq_false, not_false_eq_true, true_and, and_true, eq_self, implies_true, z_toL, z_toN, List.cons_append, List.nil_append]
      rw [x4, m4]
      exact ⟨_, rfl, rfl, h'⟩
    · rw [nX5_count, bX5_count_0]
      simp (disch := omega) only [nI_eqE, Nat.reduceEqDiff, Nat.one_ne_zero, Bool.true_eq_false, Bool.false_eq_true, true_implies, false_implies, not_true_eq_false, not_false_eq_true, true_and, and_true, eq_self, implies_true, z_toL, z_toN, List.cons_append, List.nil_append]
      refine M_count (d := 6) hM hI ?_
      rw [bX6_count_4]
      simp (disch := omega) only [k16, nl, nI_eqE, Nat.reduceEqDiff, Nat.one_ne_zero, Bool.true_eq_false, Bool.false_eq_true, true_implies, false_implies, not_true_eq_false, not_false_eq_true, true_and, and_true, eq_self, implies_true, z_toL, z_toN, List.cons_append, List.nil_append]
      rw [x5, m5]
      exact ⟨_, rfl, rfl, h'⟩
    · rw [nX5_count, bX5_count_0]
      simp (disch := omega) only [nI_eqE, Nat.reduceEqDiff, Nat.one_ne_zero, Bool.true_eq_false, Bool.false_eq_true, true_implies, false_implies, not_true_eq_false, not_false_eq_true, true_and, and_true, eq_self, implies_true, z_toL, z_toN, List.cons_append, List.nil_append]
      refine M_count (d := 6) hM hI ?_
      rw [bX6_count_4]
      simp (disch := omega) only [k16, nl, nI_eqE, Nat.reduceEqDiff, Nat.one_ne_zero, Bool.true_eq_false, Bool.false_eq_true, true_implies, false_implies, not_true_eq_false, not_false_eq_true, true_and, and_true, eq_self, implies_true, z_toL, z_toN, List.cons_append, List.nil_append]
      rw [x6, m6]
      exact ⟨_, rfl, rfl, h'⟩
    · rw [nX5_count, bX5_count_0]
      simp (disch := omega) only [nI_eqE, Nat.reduceEqDiff, Nat.one_ne_zero, Bool.true_eq_false, Bool.false_eq_true, true_implies, false_implies, not_true_eq_false, not_false_eq_true, true_and, and_true, eq_self, implies_true, z_toL, z_toN, List.cons_append, List.nil_append]
      refine M_count (d := 6) hM hI ?_
      rw [bX6_count_4]
      simp (disch := omega) only [k16, nl, nI_eqE, Nat.reduceEqDiff, Nat.one_ne_zero, Bool.true_eq_false, Bool.false_eq_true, true_implies, false_implies, not_true_eq_false, not_false_eq_true, true_and, and_true, eq_self, implies_true, z_toL, z_toN, List.cons_append, List.nil_append]
      rw [x7, m7]
      exact ⟨_, rfl, rfl, h'⟩
    · rw [nX5_count, bX5_count_0]
      simp (disch := omega) only [nI_eqE, Nat.reduceEqDiff, Nat.one_ne_zero, Bool.true_eq_false, Bool.false_eq_true, true_implies, false_implies, not_true_eq_false, not_false_eq_true, true_and, and_true, eq_self, implies_true, z_toL, z_toN, List.cons_append, List.nil_append]
      refine M_count (d := 6) hM hI ?_
      rw [bX6_count_4]
      simp (disch := omega) only [k16, nl, nI_eqE, Nat.reduceEqDiff, Nat.one_ne_zero, Bool.true_eq_false, Bool.false_eq_true, true_implies, false_implies, not_true_eq_false, not_false_eq_true, true_and, and_true, eq_self, implies_true, z_toL, z_toN, List.cons_append, List.nil_append]
      rw [x8, m8]
      exact ⟨_, rfl, rfl, h'⟩
    · rw [nX5_count, bX5_count_0]
      simp (disch := omega) only [nI_eqE, Nat.reduceEqDiff, Nat.one_ne_zero, Bool.true_eq_false, Bool.false_eq_true, true_implies, false_implies, not_true_eq_false, not_false_eq_true, true_and, and_true, eq_self, implies_true, z_toL, z_toN, List.cons_append, List.nil_append]
      refine M_count (d := 6) hM hI ?_
      rw [bX6_count_4]
      simp (disch := omega) only [k16, nl, nI_eqE, Nat.reduceEqDiff, Nat.one_ne_zero, Bool.true_eq_false, Bool.false_eq_true, true_implies, false_implies, not_true_eq_false, not_false_eq_true, true_and, and_true, eq_self, implies_true, z_toL, z_toN, List.cons_append, List.nil_append]
      rw [x9, m9]
      exact ⟨_, rfl, rfl, h'⟩
    · have f2 : σ 2 (j - 10) = nI (sGen S (j - 10)) := hX.2.2.1 _ (by omega)
      have f30 : σ 30 (j - 10) = nI (sGen S (j - 10)) := hM.2.2.1 _ (by omega)
      have ej : nI j - nI 10 = nI (j - 10) := pk_sub (by omega)
      rw [nX5_count, bX5_count_0]
      simp (disch := omega) only [ej, nI_eqE, nI_ltE, nI_leE, vp_inE, nI_clamp, f2]
      refine ⟨by omega, by omega, by omega, by omega, by omega, by omega, by omega, by omega, by omega, by omega, fun _ _ _ _ _ _ _ _ _ _ => ⟨fun q => absurd q (by omega), fun _ => ⟨fun q => absurd q (by omega), fun _ => ⟨by omega, ?_⟩⟩⟩⟩
      refine M_count (d := 6) hM hI ?_
      rw [bX6_count_4, k16]
      simp (disch := omega) only [ej, nI_eqE, nI_ltE, vp_inE, nI_clamp, f30]
      exact ⟨fun _ => ⟨by omega, by omega, by omega, by omega, by omega, by omega, by omega, by omega, by omega, by omega, fun _ _ _ _ _ _ _ _ _ _ => ⟨fun q => absurd q (by omega), fun _ => ⟨fun q => absurd q (by omega), fun _ => ⟨by omega, _, rfl, rfl, h'⟩⟩⟩⟩, fun q => absurd nl q⟩

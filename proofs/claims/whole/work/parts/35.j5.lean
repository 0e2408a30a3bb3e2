/-! both sides: how, seen, underWay, core, history, count -/
theorem J_how {n : Nat} {σ : zV} (h : Rel n σ) : zJ yX5_how yX6_how [] σ n := by
  have h' := h
  obtain ⟨S, hX, hM, hI⟩ := h
  unfold zJ
  rw [nX5_how, bX5_how_0, nX6_how, bX6_how_0]
  have a : σ 0 7 = sSc S 2 := hX.2.1.2.1
  have c : σ 28 3 = sSc S 2 := hM.2.1.2.1
  rw [a, c]
  exact ⟨_, rfl, rfl, h'⟩
theorem J_seen {n : Nat} {σ : zV} (h : Rel n σ) : zJ yX5_seen yX6_seen [] σ n := by
  have h' := h
  obtain ⟨S, hX, hM, hI⟩ := h
  unfold zJ
  rw [nX5_seen, bX5_seen_0, nX6_seen, bX6_seen_0]
  have a : σ 0 8 = sSc S 3 := hX.2.1.2.2.1
  have c : σ 28 2 = sSc S 3 := hM.2.1.2.2.1
  rw [a, c]
  exact ⟨_, rfl, rfl, h'⟩
theorem J_underWay {n : Nat} {σ : zV} (h : Rel n σ) (v1 : Int32) : zJ yX5_underWay yX6_underWay [.int v1] σ n := by
  have h' := h
  obtain ⟨S, hX, hM, hI⟩ := h
  have hnc1 := hI.1.1.1
  have hnc := hI.1.1.2
  have k5 : σ 0 5 = nI (sNc S) := hX.1
  have k0 : σ 28 0 = nI (sNc S) := hM.1
  have k6 : σ 0 6 = sSc S 1 := hX.2.1.1
  have k1 : σ 28 1 = sSc S 1 := hM.2.1.1
  have hsub : nI (sNc S) - nI 1 = nI (sNc S - 1) := pk_sub (by omega)
  unfold zJ
  rcases ziy v1 (sNc S) (by omega) (by omega) with g | ⟨g1, g2, g3⟩ | ⟨c, hc, rfl, f1a, f1b, f1c⟩
  · rw [nX5_underWay, bX5_underWay_0]
    simp only [k5, g, Nat.one_ne_zero, Bool.true_eq_false, Bool.false_eq_true, true_implies, false_implies, not_true_eq_false, not_false_eq_true, true_and, and_true, eq_self, implies_true, z_toL, z_toN, List.cons_append, List.nil_append]
    rw [nX6_underWay, bX6_underWay_0]
    simp only [k0, hsub, g, Nat.one_ne_zero, Bool.true_eq_false, Bool.false_eq_true, true_implies, false_implies, not_true_eq_false, not_false_eq_true, true_and, and_true, eq_self, implies_true, z_toL, z_toN, List.cons_append, List.nil_append]
    exact ⟨_, rfl, rfl, h'⟩
  · rw [nX5_underWay, bX5_underWay_0]
    simp only [k5, g1, g2, Nat.one_ne_zero, Bool.true_eq_false, Bool.false_eq_true, true_implies, false_implies, not_true_eq_false, not_false_eq_true, true_and, and_true, eq_self, implies_true, z_toL, z_toN, List.cons_append, List.nil_append]
    rw [nX6_underWay, bX6_underWay_0]
    simp only [k0, hsub, g1, g3, Nat.one_ne_zero, Bool.true_eq_false, Bool.false_eq_true, true_implies, false_implies, not_true_eq_false, not_false_eq_true, true_and, and_true, eq_self, implies_true, z_toL, z_toN, List.cons_append, List.nil_append]
    exact ⟨_, rfl, rfl, h'⟩
  have hcut := True.intro
  have k9 : σ 9 c = zund (sSh S) c := hX.2.2.2.2.2.2.2.2.2 c (by omega)
  have hS40 := hI.1.2.2.2.2.2.2.1.1
  rw [nX5_underWay, bX5_underWay_0]
  simp only [f1a, f1b, f1c, k5, Nat.one_ne_zero, Bool.true_eq_false, Bool.false_eq_true, true_implies, false_implies, not_true_eq_false, not_false_eq_true, true_and, and_true, eq_self, implies_true, z_toL, z_toN, List.cons_append, List.nil_append]
  simp (disch := omega) only [nI_clamp, vp_inE, k9]
  refine ⟨by omega, ?_⟩
  rw [nX6_underWay, bX6_underWay_0]
  simp only [f1a, f1b, f1c, k0, hsub, Nat.one_ne_zero, Bool.true_eq_false, Bool.false_eq_true, true_implies, false_implies, not_true_eq_false, not_false_eq_true, true_and, and_true, eq_self, implies_true, z_toL, z_toN, List.cons_append, List.nil_append]
  refine M_und (d := 6) (c := c) hM.2.2.2.2.2.2.2.2 hS40 (zby hI) (by omega) ?_
  simp only [z_toL, List.cons_append, List.nil_append]
  rw [bX6_underWay_13]
  exact ⟨_, rfl, rfl, h'⟩
theorem zne {x : Int32} {n i : Nat} (h : x < nI 0 ∨ (¬ x < nI 0 ∧ nI n ≤ x ∧ nI (n - 1) < x)) (hi : i < n) (hn : n < 2 ^ 30) : (x = nI i) = False := eq_false (fun e => by
  subst e
  rcases h with h | ⟨_, h, _⟩
  · rw [nI_lt0 (by omega)] at h; exact h
  · rw [nI_leE (by omega) (by omega)] at h; omega)
theorem zoutk {x : Int32} {n k : Nat} (h : x < nI 0 ∨ (¬ x < nI 0 ∧ nI n ≤ x ∧ nI (n - 1) < x)) (hk : k < n) (hn : n < 2 ^ 30) : x - nI k < nI 0 ∨ (¬ x - nI k < nI 0 ∧ nI (n - k) ≤ x - nI k ∧ nI (n - k - 1) < x - nI k) := by
  rcases zix (x - nI k) (n - k) (by omega) (by omega) with g | g | ⟨j, hj, g⟩
  · exact Or.inl g
  · exact Or.inr g
  · exfalso
    have e : x = nI (j + k) := by rw [← nI_add, ← g, Int32.sub_add_cancel]
    have := zne h (show j + k < n by omega) hn
    rw [e] at this
    exact this.mp rfl
theorem zoutm {x : Int32} {n k : Nat} (h : x < nI 0 ∨ (¬ x < nI 0 ∧ nI n ≤ x ∧ nI (n - 1) < x)) (hn : n < 2 ^ 30) (hk : k < n) : x < nI k ∨ (¬ x < nI k ∧ nI (n - 1) < x) := by
  rcases h with h | ⟨_, h1, h2⟩
  · left
    have e := nI_toInt (show k < 2 ^ 31 by omega)
    rw [Int32.lt_iff_toInt_lt] at h ⊢
    rw [nI_toInt (show 0 < 2 ^ 31 by omega)] at h
    rw [e]; omega
  · right
    refine ⟨fun q => ?_, h2⟩
    rw [Int32.lt_iff_toInt_lt, nI_toInt (by omega)] at q
    rw [Int32.le_iff_toInt_le, nI_toInt (by omega)] at h1
    omega
theorem J_core {n : Nat} {σ : zV} (h : Rel n σ) (v1 v2 : Int32) : zJ yX5_core yX6_core [.int v1, .int v2] σ n := by
  have h' := h
  obtain ⟨S, hX, hM, hI⟩ := h
  have hnc1 := hI.1.1.1
  have hnc := hI.1.1.2
  have k5 : σ 0 5 = nI (sNc S) := hX.1
  have k0 : σ 28 0 = nI (sNc S) := hM.1
  have k6 : σ 0 6 = sSc S 1 := hX.2.1.1
  have k1 : σ 28 1 = sSc S 1 := hM.2.1.1
  have hsub : nI (sNc S) - nI 1 = nI (sNc S - 1) := pk_sub (by omega)
  unfold zJ
  rcases ziy v1 (sNc S) (by omega) (by omega) with g | ⟨g1, g2, g3⟩ | ⟨c, hc, rfl, f1a, f1b, f1c⟩
  · rw [nX5_core, bX5_core_0]
    simp only [k5, g, Nat.one_ne_zero, Bool.true_eq_false, Bool.false_eq_true, true_implies, false_implies, not_true_eq_false, not_false_eq_true, true_and, and_true, eq_self, implies_true, z_toL, z_toN, List.cons_append, List.nil_append]
    rw [nX6_core, bX6_core_0]
    simp only [k0, hsub, g, Nat.one_ne_zero, Bool.true_eq_false, Bool.false_eq_true, true_implies, false_implies, not_true_eq_false, not_false_eq_true, true_and, and_true, eq_self, implies_true, z_toL, z_toN, List.cons_append, List.nil_append]
    exact ⟨_, rfl, rfl, h'⟩
  · rw [nX5_core, bX5_core_0]
    simp only [k5, g1, g2, Nat.one_ne_zero, Bool.true_eq_false, Bool.false_eq_true, true_implies, false_implies, not_true_eq_false, not_false_eq_true, true_and, and_true, eq_self, implies_true, z_toL, z_toN, List.cons_append, List.nil_append]
    rw [nX6_core, bX6_core_0]
    simp only [k0, hsub, g1, g3, Nat.one_ne_zero, Bool.true_eq_false, Bool.false_eq_true, true_implies, false_implies, not_true_eq_false, not_false_eq_true, true_and, and_true, eq_self, implies_true, z_toL, z_toN, List.cons_append, List.nil_append]
    exact ⟨_, rfl, rfl, h'⟩
  have hcut := True.intro
  obtain ⟨x7, x8⟩ := hX.2.2.2.2.1 c (by omega)
  obtain ⟨m34, m35⟩ := hM.2.2.2.2.1 c (by omega)
  have x12 := (hX.2.2.2.2.2.2.1 c (by omega)).1
  have m36 := (hM.2.2.2.2.2.2.1 c (by omega)).1
  have x18 := (hX.2.2.2.2.2.2.2.1 c (by omega)).1
  have m38 := (hM.2.2.2.2.2.2.2.1 c (by omega)).1
  have hin4 : vp_in (nI c) 4 := by rw [vp_inE (by omega)]; omega
  have hcl : (nI c).toNatClampNeg = c := nI_clamp (by omega)
  rcases zix v2 7 (by omega) (by omega) with g | ⟨g1, g2, g3⟩ | ⟨j, hj, rfl⟩
  · have e0 := zne (i := 0) (n := 7) (Or.inl g) (by omega) (by omega)
    have e1 := zne (i := 1) (n := 7) (Or.inl g) (by omega) (by omega)
    have e2 := zne (i := 2) (n := 7) (Or.inl g) (by omega) (by omega)
    have e3 := zne (i := 3) (n := 7) (Or.inl g) (by omega) (by omega)
    have o := zoutk (k := 4) (n := 7) (Or.inl g) (by omega) (by omega)
    have p := zoutm (k := 4) (n := 7) (Or.inl g) (by omega) (by omega)
    have mm : zCall (zUn true) 8 yX6_core [.ref 28, .int (nI c), .int v2] σ (fun v' σ2 => ∃ r, some (Value.int (-nI 102)) = some (Value.int r) ∧ v' = some (Value.int r) ∧ Rel n σ2) := by
      rw [nX6_core, bX6_core_0]
      simp only [f1a, f1b, f1c, k0, hsub, e0, e1, e2, e3, Nat.one_ne_zero, Bool.true_eq_false, Bool.false_eq_true, true_implies, false_implies, not_true_eq_false, not_false_eq_true, true_and, and_true, eq_self, implies_true, z_toL, z_toN, List.cons_append, List.nil_append]
      rcases p with p | ⟨p1, p2⟩
      · exact ⟨fun _ => ⟨_, rfl, rfl, h'⟩, fun q => absurd p q⟩
      · exact ⟨fun q => absurd q p1, fun _ => ⟨fun _ => ⟨_, rfl, rfl, h'⟩, fun q => absurd p2 q⟩⟩
    rw [nX5_core, bX5_core_0]
    simp only [f1a, f1b, f1c, k5, e0, e1, e2, e3, Nat.one_ne_zero, Bool.true_eq_false, Bool.false_eq_true, true_implies, false_implies, not_true_eq_false, not_false_eq_true, true_and, and_true, eq_self, implies_true, z_toL, z_toN, List.cons_append, List.nil_append]
    rcases o with o | ⟨o1, o2, o3⟩
    · exact ⟨fun _ => mm, fun q => absurd o q⟩
    · exact ⟨fun q => absurd q o1, fun _ => ⟨fun _ => mm, fun q => absurd o2 q⟩⟩
  · have e0 := zne (i := 0) (n := 7) (Or.inr ⟨g1, g2, g3⟩) (by omega) (by omega)
    have e1 := zne (i := 1) (n := 7) (Or.inr ⟨g1, g2, g3⟩) (by omega) (by omega)
    have e2 := zne (i := 2) (n := 7) (Or.inr ⟨g1, g2, g3⟩) (by omega) (by omega)
    have e3 := zne (i := 3) (n := 7) (Or.inr ⟨g1, g2, g3⟩) (by omega) (by omega)
    have o := zoutk (k := 4) (n := 7) (Or.inr ⟨g1, g2, g3⟩) (by omega) (by omega)
    have p := zoutm (k := 4) (n := 7) (Or.inr ⟨g1, g2, g3⟩) (by omega) (by omega)
    have mm : zCall (zUn true) 8 yX6_core [.ref 28, .int (nI c), .int v2] σ (fun v' σ2 => ∃ r, some (Value.int (-nI 102)) = some (Value.int r) ∧ v' = some (Value.int r) ∧ Rel n σ2) := by
      rw [nX6_core, bX6_core_0]
      simp only [f1a, f1b, f1c, k0, hsub, e0, e1, e2, e3, Nat.one_ne_zero, Bool.true_eq_false, Bool.false_eq_true, true_implies, false_implies, not_true_eq_false, not_false_eq_true, true_and, and_true, eq_self, implies_true, z_toL, z_toN, List.cons_append, List.nil_append]
      rcases p with p | ⟨p1, p2⟩
      · exact ⟨fun _ => ⟨_, rfl, rfl, h'⟩, fun q => absurd p q⟩
      · exact ⟨fun q => absurd q p1, fun _ => ⟨fun _ => ⟨_, rfl, rfl, h'⟩, fun q => absurd p2 q⟩⟩
    rw [nX5_core, bX5_core_0]
    simp only [f1a, f1b, f1c, k5, e0, e1, e2, e3, Nat.one_ne_zero, Bool.true_eq_false, Bool.false_eq_true, true_implies, false_implies, not_true_eq_false, not_false_eq_true, true_and, and_true, eq_self, implies_true, z_toL, z_toN, List.cons_append, List.nil_append]
    rcases o with o | ⟨o1, o2, o3⟩
    · exact ⟨fun _ => mm, fun q => absurd o q⟩
    · exact ⟨fun q => absurd q o1, fun _ => ⟨fun _ => mm, fun q => absurd o2 q⟩⟩
  · have hj' : j = 0 ∨ j = 1 ∨ j = 2 ∨ j = 3 ∨ (4 ≤ j ∧ j < 7) := by omega
    rcases hj' with rfl | rfl | rfl | rfl | ⟨h4, h7⟩
    · rw [nX5_core, bX5_core_0]
      simp only [f1a, f1b, f1c, k5, hcl, x7, x8, x12, x18, Nat.one_ne_zero, Bool.true_eq_false, Bool.false_eq_true, true_implies, false_implies, not_true_eq_false, not_false_eq_true, true_and, and_true, eq_self, implies_true, z_toL, z_toN, List.cons_append, List.nil_append]
      simp (disch := omega) only [nI_eqE, Nat.reduceEqDiff, hin4, Nat.one_ne_zero, Bool.true_eq_false, Bool.false_eq_true, true_implies, false_implies, not_true_eq_false, not_false_eq_true, true_and, and_true, eq_self, implies_true, z_toL, z_toN, List.cons_append, List.nil_append]
      rw [nX6_core, bX6_core_0]
      simp only [f1a, f1b, f1c, k0, hsub, hcl, m34, m35, m36, m38, Nat.one_ne_zero, Bool.true_eq_false, Bool.false_eq_true, true_implies, false_implies, not_true_eq_false, not_false_eq_true, true_and, and_true, eq_self, implies_true, z_toL, z_toN, List.cons_append, List.nil_append]
      simp (disch := omega) only [nI_eqE, Nat.reduceEqDiff, hin4, Nat.one_ne_zero, Bool.true_eq_false, Bool.false_eq_true, true_implies, false_implies, not_true_eq_false, not_false_eq_true, true_and, and_true, eq_self, implies_true, z_toL, z_toN, List.cons_append, List.nil_append]
      exact ⟨_, rfl, rfl, h'⟩
    · rw [nX5_core, bX5_core_0]
      simp only [f1a, f1b, f1c, k5, hcl, x7, x8, x12, x18, Nat.one_ne_zero, Bool.true_eq_false, Bool.false_eq_true, true_implies, false_implies, not_true_eq_false, not_false_eq_true, true_and, and_true, eq_self, implies_true, z_toL, z_toN, List.cons_append, List.nil_append]
      simp (disch := omega) only [nI_eqE, Nat.reduceEqDiff, hin4, Nat.one_ne_zero, Bool.true_eq_false, Bool.false_eq_true, true_implies, false_implies, not_true_eq_false, not_false_eq_true, true_and, and_true, eq_self, implies_true, z_toL, z_toN, List.cons_append, List.nil_append]
      refine ⟨fun q => ?_, fun q => ?_⟩
      · rw [nX6_core, bX6_core_0]
        simp only [f1a, f1b, f1c, k0, hsub, hcl, m34, m35, m36, m38, Nat.one_ne_zero, Bool.true_eq_false, Bool.false_eq_true, true_implies, false_implies, not_true_eq_false, not_false_eq_true, true_and, and_true, eq_self, implies_true, z_toL, z_toN, List.cons_append, List.nil_append]
        simp (disch := omega) only [nI_eqE, Nat.reduceEqDiff, hin4, Nat.one_ne_zero, Bool.true_eq_false, Bool.false_eq_true, true_implies, false_implies, not_true_eq_false, not_false_eq_true, true_and, and_true, eq_self, implies_true, z_toL, z_toN, List.cons_append, List.nil_append]
        simp only [q, Nat.one_ne_zero, Bool.true_eq_false, Bool.false_eq_true, true_implies, false_implies, not_true_eq_false, not_false_eq_true, true_and, and_true, eq_self, implies_true, z_toL, z_toN, List.cons_append, List.nil_append]
        exact ⟨_, rfl, rfl, h'⟩
      · rw [nX6_core, bX6_core_0]
        simp only [f1a, f1b, f1c, k0, hsub, hcl, m34, m35, m36, m38, Nat.one_ne_zero, Bool.true_eq_false, Bool.false_eq_true, true_implies, false_implies, not_true_eq_false, not_false_eq_true, true_and, and_true, eq_self, implies_true, z_toL, z_toN, List.cons_append, List.nil_append]
        simp (disch := omega) only [nI_eqE, Nat.reduceEqDiff, hin4, Nat.one_ne_zero, Bool.true_eq_false, Bool.false_eq_true, true_implies, false_implies, not_true_eq_false, not_false_eq_true, true_and, and_true, eq_self, implies_true, z_toL, z_toN, List.cons_append, List.nil_append]
        simp only [q, Nat.one_ne_zero, Bool.true_eq_false, Bool.false_eq_true, true_implies, false_implies, not_true_eq_false, not_false_eq_true, true_and, and_true, eq_self, implies_true, z_toL, z_toN, List.cons_append, List.nil_append]
        exact ⟨_, rfl, rfl, h'⟩
    · rw [nX5_core, bX5_core_0]
      simp only [f1a, f1b, f1c, k5, hcl, x7, x8, x12, x18, Nat.one_ne_zero, Bool.true_eq_false, Bool.false_eq_true, true_implies, false_implies, not_true_eq_false, not_false_eq_true, true_and, and_true, eq_self, implies_true, z_toL, z_toN, List.cons_append, List.nil_append]
      simp (disch := omega) only [nI_eqE, Nat.reduceEqDiff, hin4, Nat.one_ne_zero, Bool.true_eq_false, Bool.false_eq_true, true_implies, false_implies, not_true_eq_false, not_false_eq_true, true_and, and_true, eq_self, implies_true, z_toL, z_toN, List.cons_append, List.nil_append]
      rw [nX6_core, bX6_core_0]
      simp only [f1a, f1b, f1c, k0, hsub, hcl, m34, m35, m36, m38, Nat.one_ne_zero, Bool.true_eq_false, Bool.false_eq_true, true_implies, false_implies, not_true_eq_false, not_false_eq_true, true_and, and_true, eq_self, implies_true, z_toL, z_toN, List.cons_append, List.nil_append]
      simp (disch := omega) only [nI_eqE, Nat.reduceEqDiff, hin4, Nat.one_ne_zero, Bool.true_eq_false, Bool.false_eq_true, true_implies, false_implies, not_true_eq_false, not_false_eq_true, true_and, and_true, eq_self, implies_true, z_toL, z_toN, List.cons_append, List.nil_append]
      exact ⟨_, rfl, rfl, h'⟩
    · rw [nX5_core, bX5_core_0]
      simp only [f1a, f1b, f1c, k5, hcl, x7, x8, x12, x18, Nat.one_ne_zero, Bool.true_eq_false, Bool.false_eq_true, true_implies, false_implies, not_true_eq_false, not_false_eq_true, true_and, and_true, eq_self, implies_true, z_toL, z_toN, List.cons_append, List.nil_append]
      simp (disch := omega) only [nI_eqE, Nat.reduceEqDiff, hin4, Nat.one_ne_zero, Bool.true_eq_false, Bool.false_eq_true, true_implies, false_implies, not_true_eq_false, not_false_eq_true, true_and, and_true, eq_self, implies_true, z_toL, z_toN, List.cons_append, List.nil_append]
      rw [nX6_core, bX6_core_0]
      simp only [f1a, f1b, f1c, k0, hsub, hcl, m34, m35, m36, m38, Nat.one_ne_zero, Bool.true_eq_false, Bool.false_eq_true, true_implies, false_implies, not_true_eq_false, not_false_eq_true, true_and, and_true, eq_self, implies_true, z_toL, z_toN, List.cons_append, List.nil_append]
      simp (disch := omega) only [nI_eqE, Nat.reduceEqDiff, hin4, Nat.one_ne_zero, Bool.true_eq_false, Bool.false_eq_true, true_implies, false_implies, not_true_eq_false, not_false_eq_true, true_and, and_true, eq_self, implies_true, z_toL, z_toN, List.cons_append, List.nil_append]
      exact ⟨_, rfl, rfl, h'⟩
    · have f10 : σ 10 (c * 3 + (j - 4)) = nI (sFg S (c * 3 + (j - 4))) := hX.2.2.2.2.2.1 _ (by omega)
      have f40 : σ 40 (c * 3 + (j - 4)) = nI (sFg S (c * 3 + (j - 4))) := hM.2.2.2.2.2.1 _ (by omega)
      have ej : nI j - nI 4 = nI (j - 4) := pk_sub (by omega)
      have em : nI 3 * nI c + nI j - nI 4 = nI (c * 3 + (j - 4)) := by rw [pk_mul, nI_add, pk_sub (by omega)]; congr 1; omega
      rw [nX5_core, bX5_core_0]
      simp only [f1a, f1b, f1c, k5, ej, Nat.one_ne_zero, Bool.true_eq_false, Bool.false_eq_true, true_implies, false_implies, not_true_eq_false, not_false_eq_true, true_and, and_true, eq_self, implies_true, z_toL, z_toN, List.cons_append, List.nil_append]
      simp (disch := omega) only [nI_eqE, nI_ltE, nI_leE, pk_mul, nI_add, vp_inE, nI_clamp, f10]
      refine ⟨by omega, by omega, by omega, by omega, fun _ _ _ _ => ⟨fun q => absurd q (by omega), fun _ => ⟨fun q => absurd q (by omega), fun _ => ⟨by omega, ?_⟩⟩⟩⟩
      rw [nX6_core, bX6_core_0]
      simp only [f1a, f1b, f1c, k0, hsub, em, Nat.one_ne_zero, Bool.true_eq_false, Bool.false_eq_true, true_implies, false_implies, not_true_eq_false, not_false_eq_true, true_and, and_true, eq_self, implies_true, z_toL, z_toN, List.cons_append, List.nil_append]
      simp (disch := omega) only [nI_eqE, nI_ltE, nI_leE, vp_inE, nI_clamp, f40]
      exact ⟨by omega, by omega, by omega, by omega, fun _ _ _ _ => ⟨fun q => absurd q (by omega), fun _ => ⟨fun q => absurd q (by omega), fun _ => ⟨by omega, _, rfl, rfl, h'⟩⟩⟩⟩

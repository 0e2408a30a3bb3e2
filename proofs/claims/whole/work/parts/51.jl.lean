/-! both sides: shoot -/
theorem M_shoot {d : Nat} {Q : zQ} {S : zSt} {σ : zV} {k w n : Nat} (h : RM S σ) (hI : zI n S) (hk : k < (sSh S).length) (hw : w < 8 + sNc S) (hQ : Q (some (.int (zshA (zg (sSh S) k zs0) w))) σ) : zCall (zUn true) (d + 2) yX6_shoot [.ref 28, .int (nI k), .int (nI w)] σ Q := by
  have hnc := hI.1.1.2
  have hl := hI.1.2.2.2.2.2.2.1.1
  have k0 : σ 28 0 = nI (sNc S) := h.1
  have k16 : σ 28 16 = nI (sSh S).length := h.2.2.2.2.2.2.2.2.1
  obtain ⟨y1, y2, y3, y4, y5, y6, y7⟩ := h.2.2.2.2.2.2.2.2.2 k hk
  have g1 : ¬ nI k < nI 0 := by rw [nI_lt0 (by omega)]; exact id
  have es : nI (sSh S).length - nI 1 = nI ((sSh S).length - 1) := pk_sub (by omega)
  have g2 : ¬ nI ((sSh S).length - 1) < nI k := by rw [nI_ltE (by omega) (by omega)]; omega
  have in1 : vp_in (nI k) 40 := by rw [vp_inE (by omega)]; omega
  have cl1 : (nI k).toNatClampNeg = k := nI_clamp (by omega)
  rw [nX6_shoot, bX6_shoot_0, k16, es]
  simp only [g1, g2, in1, cl1, y1, y2, y3, y4, y5, y6, k0, Nat.one_ne_zero, Bool.true_eq_false, Bool.false_eq_true, true_implies, false_implies, not_true_eq_false, not_false_eq_true, true_and, and_true, eq_self, implies_true, z_toL, z_toN, List.cons_append, List.nil_append]
  have hw' : w = 0 ∨ w = 1 ∨ w = 2 ∨ w = 3 ∨ w = 4 ∨ w = 5 ∨ w = 6 ∨ w = 7 ∨ (8 ≤ w) := by omega
  rcases hw' with rfl | rfl | rfl | rfl | rfl | rfl | rfl | rfl | h8
  · simp (disch := omega) only [nI_eqE, Nat.reduceEqDiff, Nat.one_ne_zero, Bool.true_eq_false, Bool.false_eq_true, true_implies, false_implies, not_true_eq_false, not_false_eq_true, true_and, and_true, eq_self, implies_true, z_toL, z_toN, List.cons_append, List.nil_append]
    exact hQ
  · simp (disch := omega) only [nI_eqE, Nat.reduceEqDiff, Nat.one_ne_zero, Bool.true_eq_false, Bool.false_eq_true, true_implies, false_implies, not_true_eq_false, not_false_eq_true, true_and, and_true, eq_self, implies_true, z_toL, z_toN, List.cons_append, List.nil_append]
    exact hQ
  · simp (disch := omega) only [nI_eqE, Nat.reduceEqDiff, Nat.one_ne_zero, Bool.true_eq_false, Bool.false_eq_true, true_implies, false_implies, not_true_eq_false, not_false_eq_true, true_and, and_true, eq_self, implies_true, z_toL, z_toN, List.cons_append, List.nil_append]
    exact hQ
  · simp (disch := omega) only [nI_eqE, Nat.reduceEqDiff, Nat.one_ne_zero, Bool.true_eq_false, Bool.false_eq_true, true_implies, false_implies, not_true_eq_false, not_false_eq_true, true_and, and_true, eq_self, implies_true, z_toL, z_toN, List.cons_append, List.nil_append]
    exact hQ
  · simp (disch := omega) only [nI_eqE, Nat.reduceEqDiff, Nat.one_ne_zero, Bool.true_eq_false, Bool.false_eq_true, true_implies, false_implies, not_true_eq_false, not_false_eq_true, true_and, and_true, eq_self, implies_true, z_toL, z_toN, List.cons_append, List.nil_append]
    exact hQ
  · simp (disch := omega) only [nI_eqE, Nat.reduceEqDiff, Nat.one_ne_zero, Bool.true_eq_false, Bool.false_eq_true, true_implies, false_implies, not_true_eq_false, not_false_eq_true, true_and, and_true, eq_self, implies_true, z_toL, z_toN, List.cons_append, List.nil_append]
    have hQ : Q (some (.int (if (zg (sSh S) k zs0).2.2.2.2.2.1 = -nI 1 then nI 0 else nI 1))) σ := hQ
    refine ⟨fun q => ?_, fun q => ?_⟩
    · rw [if_neg q] at hQ; exact hQ
    · rw [if_pos q] at hQ; exact hQ
  · simp (disch := omega) only [nI_eqE, Nat.reduceEqDiff, Nat.one_ne_zero, Bool.true_eq_false, Bool.false_eq_true, true_implies, false_implies, not_true_eq_false, not_false_eq_true, true_and, and_true, eq_self, implies_true, z_toL, z_toN, List.cons_append, List.nil_append]
    exact hQ
  · simp (disch := omega) only [nI_eqE, Nat.reduceEqDiff, Nat.one_ne_zero, Bool.true_eq_false, Bool.false_eq_true, true_implies, false_implies, not_true_eq_false, not_false_eq_true, true_and, and_true, eq_self, implies_true, z_toL, z_toN, List.cons_append, List.nil_append]
    refine M_waited (d := d) h hI hk ?_
    simp only [z_toL, List.cons_append, List.nil_append]
    rw [bX6_shoot_127]
    exact hQ
  · have ej : nI 4 * nI k + nI w - nI 8 = nI (k * 4 + (w - 8)) := by rw [pk_mul, nI_add, zc4, pk_sub (by omega)]; congr 1; omega
    have es7 : nI 7 + nI (sNc S) = nI (7 + sNc S) := nI_add _ _
    have hQ : Q (some (.int (zb ((zg (sSh S) k zs0).2.2.2.2.2.2 (w - 8))))) σ := by
      have e : zshA (zg (sSh S) k zs0) w = zb ((zg (sSh S) k zs0).2.2.2.2.2.2 (w - 8)) := by
        match w, h8 with
        | w + 8, _ => rfl
      rw [e] at hQ
      exact hQ
    rw [ej, es7]
    simp (disch := omega) only [nI_eqE, nI_ltE, nI_clamp, vp_inE, y7 (w - 8) (by omega), zb_0]
    refine ⟨by omega, by omega, by omega, by omega, by omega, by omega, by omega, by omega, fun _ _ _ _ _ _ _ _ => ⟨fun q => absurd q (by omega), fun _ => ⟨fun q => absurd q (by omega), fun _ => ⟨by omega, fun q => ?_, fun q => ?_⟩⟩⟩⟩
    · rw [q] at hQ; exact hQ
    · have qa : (zg (sSh S) k zs0).2.2.2.2.2.2 (w - 8) = true := by cases ea : (zg (sSh S) k zs0).2.2.2.2.2.2 (w - 8); exact absurd ea q; rfl
      rw [qa] at hQ; exact hQ
theorem J_shoot {n : Nat} {σ : zV} (h : Rel n σ) (v1 v2 : Int32) : zJ yX5_shoot yX6_shoot [.int v1, .int v2] σ n := by
  have h' := h
  obtain ⟨S, hX, hM, hI⟩ := h
  have hnc1 := hI.1.1.1
  have hnc := hI.1.1.2
  have k5 : σ 0 5 = nI (sNc S) := hX.1
  have k0 : σ 28 0 = nI (sNc S) := hM.1
  have k6 : σ 0 6 = sSc S 1 := hX.2.1.1
  have k1 : σ 28 1 = sSc S 1 := hM.2.1.1
  have hsub : nI (sNc S) - nI 1 = nI (sNc S - 1) := pk_sub (by omega)
  unfold zJ
  have hl := hI.1.2.2.2.2.2.2.1.1
  have k20 : σ 20 0 = nI (sSh S).length := hX.2.2.2.2.2.2.2.2.1.1
  have k16 : σ 28 16 = nI (sSh S).length := hM.2.2.2.2.2.2.2.2.1
  have un : (v1 < nI 0 ∨ (¬ v1 < nI 0 ∧ nI (sSh S).length - nI 1 < v1)) → zCall (zUn true) 8 yX6_shoot [.ref 28, .int v1, .int v2] σ (fun v' σ2 => ∃ r, some (Value.int (-nI 101)) = some (Value.int r) ∧ v' = some (Value.int r) ∧ Rel n σ2) := by
    intro q
    rw [nX6_shoot, bX6_shoot_0, k16]
    rcases q with q | ⟨q1, q2⟩
    · exact ⟨fun _ => ⟨_, rfl, rfl, h'⟩, fun z => absurd q z⟩
    · exact ⟨fun z => absurd z q1, fun _ => ⟨fun _ => ⟨_, rfl, rfl, h'⟩, fun z => absurd q2 z⟩⟩
  by_cases q0 : v1 < nI 0
  · rw [nX5_shoot, bX5_shoot_0, k20]
    exact ⟨fun _ => un (Or.inl q0), fun z => absurd q0 z⟩
  by_cases q1 : nI (sSh S).length ≤ v1
  · rw [nX5_shoot, bX5_shoot_0, k20]
    refine ⟨fun z => absurd z q0, fun _ => ⟨fun _ => un (Or.inr ⟨q0, ?_⟩), fun z => absurd q1 z⟩⟩
    rw [Int32.lt_iff_toInt_lt]
    rw [Int32.le_iff_toInt_le, nI_toInt (by omega)] at q1
    rw [Int32.lt_iff_toInt_lt, nI_toInt (by omega)] at q0
    by_cases e : (sSh S).length = 0
    · rw [e]
      have : (nI 0 - nI 1).toInt = -1 := by decide
      rw [this]; omega
    · rw [pk_sub (by omega), nI_toInt (by omega)]; omega
  rcases zix v1 (sSh S).length (by rcases Nat.eq_zero_or_pos (sSh S).length with e | e; exfalso; rw [e] at q1; rw [Int32.lt_iff_toInt_lt, nI_toInt (by omega)] at q0; rw [Int32.le_iff_toInt_le, nI_toInt (by omega)] at q1; omega; exact e) (by omega) with g | g | ⟨k, hk, rfl⟩
  · exact absurd g q0
  · exact absurd g.2.1 q1
  have es : nI (sSh S).length - nI 1 = nI ((sSh S).length - 1) := pk_sub (by omega)
  have g2 : ¬ nI ((sSh S).length - 1) < nI k := by rw [nI_ltE (by omega) (by omega)]; omega
  have es7 : nI 7 + nI (sNc S) = nI (7 + sNc S) := nI_add _ _
  have out : ∀ m, m = 8 + sNc S → (v2 < nI 0 ∨ (¬ v2 < nI 0 ∧ nI m ≤ v2 ∧ nI (m - 1) < v2)) → zCall (zUn true) 8 yX5_shoot [.ref 0, .int (nI k), .int v2] σ (fun v σ1 => zCall (zUn true) 8 yX6_shoot [.ref 28, .int (nI k), .int v2] σ1 (fun v' σ2 => ∃ r, v = some (.int r) ∧ v' = some (.int r) ∧ Rel n σ2)) := by
    intro m hm g
    have e0 := zne (i := 0) (n := m) g (by omega) (by omega)
    have e1 := zne (i := 1) (n := m) g (by omega) (by omega)
    have e2 := zne (i := 2) (n := m) g (by omega) (by omega)
    have e3 := zne (i := 3) (n := m) g (by omega) (by omega)
    have e4 := zne (i := 4) (n := m) g (by omega) (by omega)
    have e5 := zne (i := 5) (n := m) g (by omega) (by omega)
    have e6 := zne (i := 6) (n := m) g (by omega) (by omega)
    have e7 := zne (i := 7) (n := m) g (by omega) (by omega)
    have o := zoutk (k := 8) (n := m) g (by omega) (by omega)
    have p := zoutm (k := 8) (n := m) g (by omega) (by omega)
    rw [show m - 8 = sNc S by omega] at o
    rw [show m - 1 = 7 + sNc S by omega, ← es7] at p
    have mm : zCall (zUn true) 8 yX6_shoot [.ref 28, .int (nI k), .int v2] σ (fun v' σ2 => ∃ r, some (Value.int (-nI 102)) = some (Value.int r) ∧ v' = some (Value.int r) ∧ Rel n σ2) := by
      rw [nX6_shoot, bX6_shoot_0, k16, es, k0]
      simp only [q0, g2, e0, e1, e2, e3, e4, e5, e6, e7, Nat.one_ne_zero, Bool.true_eq_false, Bool.false_eq_true, true_implies, false_implies, not_true_eq_false, not_false_eq_true, true_and, and_true, eq_self, implies_true, z_toL, z_toN, List.cons_append, List.nil_append]
      rcases p with p | ⟨p1, p2⟩
      · exact ⟨fun _ => ⟨_, rfl, rfl, h'⟩, fun q => absurd p q⟩
      · exact ⟨fun q => absurd q p1, fun _ => ⟨fun _ => ⟨_, rfl, rfl, h'⟩, fun q => absurd p2 q⟩⟩
    rw [nX5_shoot, bX5_shoot_0, k20, k5]
    simp only [q0, q1, e0, e1, e2, e3, e4, e5, e6, e7, Nat.one_ne_zero, Bool.true_eq_false, Bool.false_eq_true, true_implies, false_implies, not_true_eq_false, not_false_eq_true, true_and, and_true, eq_self, implies_true, z_toL, z_toN, List.cons_append, List.nil_append]
    rcases o with o | ⟨o1, o2, o3⟩
    · exact ⟨fun _ => mm, fun q => absurd o q⟩
    · exact ⟨fun q => absurd q o1, fun _ => ⟨fun _ => mm, fun q => absurd o2 q⟩⟩
  rcases zix v2 (8 + sNc S) (by omega) (by omega) with g | g | ⟨w, hw, rfl⟩
  · exact out _ rfl (Or.inl g)
  · exact out _ rfl (Or.inr g)
  · exact X_shoot (d := 6) hX hI hk hw (M_shoot (d := 6) hM hI hk hw ⟨_, rfl, rfl, h'⟩)

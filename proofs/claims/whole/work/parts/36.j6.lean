/-! both sides: history, count -/
theorem J_history {n : Nat} {σ : zV} (h : Rel n σ) (v1 v2 v3 : Int32) : zJ yX5_history yX6_history [.int v1, .int v2, .int v3] σ n := by
  have h' := h
  obtain ⟨S, hX, hM, hI⟩ := h
  have hnc1 := hI.1.1.1
  have hnc := hI.1.1.2
  have k5 : σ 0 5 = nI (sNc S) := hX.1
  have k0 : σ 28 0 = nI (sNc S) := hM.1
  have k6 : σ 0 6 = sSc S 1 := hX.2.1.1
  have k1 : σ 28 1 = sSc S 1 := hM.2.1.1
  have hsub : nI (sNc S) - nI 1 = nI (sNc S - 1) := pk_sub (by omega)
  unfold zJ
  rcases ziy v1 3 (by omega) (by omega) with g | ⟨g1, g2, g3⟩ | ⟨s, hs, rfl, f1a, f1b, f1c⟩
  · rw [nX5_history, bX5_history_0]
    simp only [k5, g, Nat.one_ne_zero, Bool.true_eq_false, Bool.false_eq_true, true_implies, false_implies, not_true_eq_false, not_false_eq_true, true_and, and_true, eq_self, implies_true, z_toL, z_toN, List.cons_append, List.nil_append]
    rw [nX6_history, bX6_history_0]
    simp only [k0, hsub, g, Nat.one_ne_zero, Bool.true_eq_false, Bool.false_eq_true, true_implies, false_implies, not_true_eq_false, not_false_eq_true, true_and, and_true, eq_self, implies_true, z_toL, z_toN, List.cons_append, List.nil_append]
    exact ⟨_, rfl, rfl, h'⟩
  · rw [nX5_history, bX5_history_0]
    simp only [k5, g1, g2, Nat.one_ne_zero, Bool.true_eq_false, Bool.false_eq_true, true_implies, false_implies, not_true_eq_false, not_false_eq_true, true_and, and_true, eq_self, implies_true, z_toL, z_toN, List.cons_append, List.nil_append]
    rw [nX6_history, bX6_history_0]
    simp only [k0, hsub, g1, g3, Nat.one_ne_zero, Bool.true_eq_false, Bool.false_eq_true, true_implies, false_implies, not_true_eq_false, not_false_eq_true, true_and, and_true, eq_self, implies_true, z_toL, z_toN, List.cons_append, List.nil_append]
    exact ⟨_, rfl, rfl, h'⟩
  rcases ziy v2 16 (by omega) (by omega) with g | ⟨g1, g2, g3⟩ | ⟨p, hp, rfl, f2a, f2b, f2c⟩
  · rw [nX5_history, bX5_history_0]
    simp only [f1a, f1b, f1c, k5, g, Nat.one_ne_zero, Bool.true_eq_false, Bool.false_eq_true, true_implies, false_implies, not_true_eq_false, not_false_eq_true, true_and, and_true, eq_self, implies_true, z_toL, z_toN, List.cons_append, List.nil_append]
    rw [nX6_history, bX6_history_0]
    simp only [f1a, f1b, f1c, k0, hsub, g, Nat.one_ne_zero, Bool.true_eq_false, Bool.false_eq_true, true_implies, false_implies, not_true_eq_false, not_false_eq_true, true_and, and_true, eq_self, implies_true, z_toL, z_toN, List.cons_append, List.nil_append]
    exact ⟨_, rfl, rfl, h'⟩
  · rw [nX5_history, bX5_history_0]
    simp only [f1a, f1b, f1c, k5, g1, g2, Nat.one_ne_zero, Bool.true_eq_false, Bool.false_eq_true, true_implies, false_implies, not_true_eq_false, not_false_eq_true, true_and, and_true, eq_self, implies_true, z_toL, z_toN, List.cons_append, List.nil_append]
    rw [nX6_history, bX6_history_0]
    simp only [f1a, f1b, f1c, k0, hsub, g1, g3, Nat.one_ne_zero, Bool.true_eq_false, Bool.false_eq_true, true_implies, false_implies, not_true_eq_false, not_false_eq_true, true_and, and_true, eq_self, implies_true, z_toL, z_toN, List.cons_append, List.nil_append]
    exact ⟨_, rfl, rfl, h'⟩
  have hcut := True.intro
  obtain ⟨x1, x2⟩ := hX.2.2.2.1 (s * 16 + p) (by omega)
  obtain ⟨m1, m2, m3⟩ := hM.2.2.2.1 (s * 16 + p) (by omega)
  obtain ⟨i1, i2, i3⟩ := hI.1.2.2.1 (s * 16 + p) (by omega)
  have e1 : nI s * nI 16 + nI p = nI (s * 16 + p) := by rw [pk_mul, nI_add]
  have e2 : nI 16 * nI s + nI p = nI (s * 16 + p) := by rw [pk_mul, nI_add, zc16]
  have in1 : vp_in (nI (s * 16 + p)) 48 := by rw [vp_inE (by omega)]; omega
  have cl1 : (nI (s * 16 + p)).toNatClampNeg = s * 16 + p := nI_clamp (by omega)
  have es : nI (sHi S (s * 16 + p)).length - nI 1 = nI ((sHi S (s * 16 + p)).length - 1) := pk_sub (by omega)
  have mm : (v3 < nI 0 ∨ (¬ v3 < nI 0 ∧ nI ((sHi S (s * 16 + p)).length - 1) < v3)) → zCall (zUn true) 8 yX6_history [.ref 28, .int (nI s), .int (nI p), .int v3] σ (fun v' σ2 => ∃ r, some (Value.int (-nI 1)) = some (Value.int r) ∧ v' = some (Value.int r) ∧ Rel n σ2) := by
    intro q
    rw [nX6_history, bX6_history_0]
    simp only [f1a, f1b, f1c, f2a, f2b, f2c, e2, in1, cl1, m1, es, Nat.one_ne_zero, Bool.true_eq_false, Bool.false_eq_true, true_implies, false_implies, not_true_eq_false, not_false_eq_true, true_and, and_true, eq_self, implies_true, z_toL, z_toN, List.cons_append, List.nil_append]
    rcases q with q | ⟨q1, q2⟩
    · exact ⟨fun _ => ⟨_, rfl, rfl, h'⟩, fun z => absurd q z⟩
    · exact ⟨fun z => absurd z q1, fun _ => ⟨fun _ => ⟨_, rfl, rfl, h'⟩, fun z => absurd q2 z⟩⟩
  rcases zix v3 (sHi S (s * 16 + p)).length (by omega) (by omega) with g | ⟨g1, g2, g3⟩ | ⟨k, hk, rfl⟩
  · rw [nX5_history, bX5_history_0]
    simp only [f1a, f1b, f1c, f2a, f2b, f2c, e1, in1, cl1, x1, Nat.one_ne_zero, Bool.true_eq_false, Bool.false_eq_true, true_implies, false_implies, not_true_eq_false, not_false_eq_true, true_and, and_true, eq_self, implies_true, z_toL, z_toN, List.cons_append, List.nil_append]
    exact ⟨fun _ => mm (Or.inl g), fun z => absurd g z⟩
  · rw [nX5_history, bX5_history_0]
    simp only [f1a, f1b, f1c, f2a, f2b, f2c, e1, in1, cl1, x1, Nat.one_ne_zero, Bool.true_eq_false, Bool.false_eq_true, true_implies, false_implies, not_true_eq_false, not_false_eq_true, true_and, and_true, eq_self, implies_true, z_toL, z_toN, List.cons_append, List.nil_append]
    exact ⟨fun z => absurd z g1, fun _ => ⟨fun _ => mm (Or.inr ⟨g1, g3⟩), fun z => absurd g2 z⟩⟩
  · obtain ⟨y1, y2⟩ := x2 k hk
    obtain ⟨n1, n2⟩ := m2 k hk
    have hz := i3 _ (zg_mem (x := zh0) hk)
    have hz2 := zvE_lt hz
    have e3 : nI (s * 16 + p) * nI 20 + nI k = nI ((s * 16 + p) * 20 + k) := by rw [pk_mul, nI_add]
    have e4 : nI 20 * nI (s * 16 + p) + nI k = nI ((s * 16 + p) * 20 + k) := by rw [pk_mul, nI_add, zc20]
    have in2 : vp_in (nI ((s * 16 + p) * 20 + k)) 960 := by rw [vp_inE (by omega)]; omega
    have cl2 : (nI ((s * 16 + p) * 20 + k)).toNatClampNeg = (s * 16 + p) * 20 + k := nI_clamp (by omega)
    have n0 : ¬ nI k < nI 0 := by rw [nI_lt0 (by omega)]; exact id
    have n5 : ¬ nI (sHi S (s * 16 + p)).length ≤ nI k := by rw [nI_leE (by omega) (by omega)]; omega
    have n6 : ¬ nI ((sHi S (s * 16 + p)).length - 1) < nI k := by rw [nI_ltE (by omega) (by omega)]; omega
    rw [nX5_history, bX5_history_0]
    simp only [f1a, f1b, f1c, f2a, f2b, f2c, e1, in1, cl1, x1, n0, n5, e3, in2, cl2, y1, Nat.one_ne_zero, Bool.true_eq_false, Bool.false_eq_true, true_implies, false_implies, not_true_eq_false, not_false_eq_true, true_and, and_true, eq_self, implies_true, z_toL, z_toN, List.cons_append, List.nil_append]
    have mX : RX (sSet 3 (zt (zg (sHi S (s * 16 + p)) k zh0).1) S) (zput σ 0 8 (zt (zg (sHi S (s * 16 + p)) k zh0).1)) := RX_set hX 3 (by omega) (by omega) _
    have hM1 := RM_xo hM (zXo_put (a := 0) (k := 8) (x := zt (zg (sHi S (s * 16 + p)) k zh0).1) (by omega))
    have y2' : zput σ 0 8 (zt (zg (sHi S (s * 16 + p)) k zh0).1) 5 ((s * 16 + p) * 20 + k) = (zg (sHi S (s * 16 + p)) k zh0).2 := by rw [zput_ne (by omega)]; exact y2
    rw [y2']
    generalize zput σ 0 8 (zt (zg (sHi S (s * 16 + p)) k zh0).1) = σ1 at mX hM1
    obtain ⟨m1, m2, m3⟩ := hM1.2.2.2.1 (s * 16 + p) (by omega)
    obtain ⟨n1, n2⟩ := m2 k hk
    have fin : ∀ x, x = zt (zg (sHi S (s * 16 + p)) k zh0).1 → ∃ r, some (Value.int (zg (sHi S (s * 16 + p)) k zh0).2) = some (Value.int r) ∧ some (Value.int (zput σ1 28 2 x 32 ((s * 16 + p) * 20 + k))) = some (Value.int r) ∧ Rel n (zput σ1 28 2 x) := by
      intro x hx
      refine ⟨_, rfl, ?_, _, RX_mo mX (zMo_put (by omega)), hx ▸ RM_set3 hM1 x, zI_set hI (by omega)⟩
      rw [zput_ne (by omega), n2]
    rw [nX6_history, bX6_history_0]
    simp only [f1a, f1b, f1c, f2a, f2b, f2c, e2, in1, cl1, m1, es, n0, n6, e4, in2, cl2, n1, Nat.one_ne_zero, Bool.true_eq_false, Bool.false_eq_true, true_implies, false_implies, not_true_eq_false, not_false_eq_true, true_and, and_true, eq_self, implies_true, z_toL, z_toN, List.cons_append, List.nil_append]
    exact zm_told (Q := fun x => ∃ r, some (Value.int (zg (sHi S (s * 16 + p)) k zh0).2) = some (Value.int r) ∧ some (Value.int (zput σ1 28 2 x 32 ((s * 16 + p) * 20 + k))) = some (Value.int r) ∧ Rel n (zput σ1 28 2 x)) hz (fin _ rfl)

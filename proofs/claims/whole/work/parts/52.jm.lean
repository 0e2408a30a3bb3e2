/-! one side: core, note -/
def zcoA (S : zSt) (c : Nat) : Nat → Int32
  | 0 => nI (sSp S c)
  | 1 => zb (sAw S c)
  | 2 => nI (sNo S c).length
  | 3 => nI (sQu S c).length
  | w => nI (sFg S (c * 3 + (w - 4)))
def znoA (S : zSt) (c k : Nat) : Nat → Int32
  | 0 => nI (zg (sNo S c) k zn0).1
  | 1 => nI (zg (sNo S c) k zn0).2.1
  | 2 => nI (zef (zg (sNo S c) k zn0).2.2.1)
  | 3 => if 768 ≤ (zg (sNo S c) k zn0).2.2.1 then nI 1 else nI 0
  | 4 => (zg (sNo S c) k zn0).2.2.2
  | _ => zb (zstl S (zg (sNo S c) k zn0))
theorem X_core1 {b : Bool} {d : Nat} {Q : zQ} {S : zSt} {σ : zV} {c w n : Nat} (h : RX S σ) (hI : zI n S) (hc : c < sNc S) (hw : w < 7) (hQ : Q (some (.int (zcoA S c w))) σ) : zCall (zUn b) (d + 2) yX5_core [.ref 0, .int (nI c), .int (nI w)] σ Q := by
  have hnc := hI.1.1.2
  obtain ⟨x7, x8⟩ := h.2.2.2.2.1 c (by omega)
  have x12 := (h.2.2.2.2.2.2.1 c (by omega)).1
  have x18 := (h.2.2.2.2.2.2.2.1 c (by omega)).1
  have g1 : ¬ nI c < nI 0 := by rw [nI_lt0 (by omega)]; exact id
  have hin4 : vp_in (nI c) 4 := by rw [vp_inE (by omega)]; omega
  have hcl : (nI c).toNatClampNeg = c := nI_clamp (by omega)
  have k5 : σ 0 5 = nI (sNc S) := h.1
  have g2 : ¬ nI (sNc S) ≤ nI c := by rw [nI_leE (by omega) (by omega)]; omega
  rw [nX5_core, bX5_core_0, k5]
  simp only [g1, g2, hin4, hcl, x7, x8, x12, x18, zb_0, Nat.one_ne_zero, Bool.true_eq_false, Bool.false_eq_true, true_implies, false_implies, not_true_eq_false, not_false_eq_true, true_and, and_true, eq_self, implies_true, z_toL, z_toN, List.cons_append, List.nil_append]
  have hw' : w = 0 ∨ w = 1 ∨ w = 2 ∨ w = 3 ∨ (4 ≤ w) := by omega
  rcases hw' with rfl | rfl | rfl | rfl | h4
  · simp (disch := omega) only [nI_eqE, Nat.reduceEqDiff, Nat.one_ne_zero, Bool.true_eq_false, Bool.false_eq_true, true_implies, false_implies, not_true_eq_false, not_false_eq_true, true_and, and_true, eq_self, implies_true, z_toL, z_toN, List.cons_append, List.nil_append]
    exact hQ
  · simp (disch := omega) only [nI_eqE, Nat.reduceEqDiff, Nat.one_ne_zero, Bool.true_eq_false, Bool.false_eq_true, true_implies, false_implies, not_true_eq_false, not_false_eq_true, true_and, and_true, eq_self, implies_true, z_toL, z_toN, List.cons_append, List.nil_append]
    have hQ : Q (some (.int (zb (sAw S c)))) σ := hQ
    cases ea : sAw S c
    · rw [ea] at hQ; exact ⟨fun _ => hQ, fun z => absurd rfl z⟩
    · rw [ea] at hQ; exact ⟨fun z => absurd z (by decide), fun _ => hQ⟩
  · simp (disch := omega) only [nI_eqE, Nat.reduceEqDiff, Nat.one_ne_zero, Bool.true_eq_false, Bool.false_eq_true, true_implies, false_implies, not_true_eq_false, not_false_eq_true, true_and, and_true, eq_self, implies_true, z_toL, z_toN, List.cons_append, List.nil_append]
    exact hQ
  · simp (disch := omega) only [nI_eqE, Nat.reduceEqDiff, Nat.one_ne_zero, Bool.true_eq_false, Bool.false_eq_true, true_implies, false_implies, not_true_eq_false, not_false_eq_true, true_and, and_true, eq_self, implies_true, z_toL, z_toN, List.cons_append, List.nil_append]
    exact hQ
  · have hf : σ 10 (c * 3 + (w - 4)) = nI (sFg S (c * 3 + (w - 4))) := h.2.2.2.2.2.1 _ (by omega)
    have hQ : Q (some (.int (nI (sFg S (c * 3 + (w - 4)))))) σ := by
      have e : zcoA S c w = nI (sFg S (c * 3 + (w - 4))) := by
        match w, h4 with
        | w + 4, _ => rfl
      rw [e] at hQ
      exact hQ
    have ej : nI w - nI 4 = nI (w - 4) := pk_sub (by omega)
    rw [ej]
    simp (disch := omega) only [nI_eqE, nI_ltE, nI_leE, pk_mul, nI_add, vp_inE, nI_clamp, hf]
    exact ⟨by omega, by omega, by omega, by omega, fun _ _ _ _ => ⟨fun q => absurd q (by omega), fun _ => ⟨fun q => absurd q (by omega), fun _ => ⟨by omega, hQ⟩⟩⟩⟩
theorem M_core1 {d : Nat} {Q : zQ} {S : zSt} {σ : zV} {c w n : Nat} (h : RM S σ) (hI : zI n S) (hc : c < sNc S) (hw : w < 7) (hQ : Q (some (.int (zcoA S c w))) σ) : zCall (zUn true) (d + 3) yX6_core [.ref 28, .int (nI c), .int (nI w)] σ Q := by
  have hnc := hI.1.1.2
  obtain ⟨x7, x8⟩ := h.2.2.2.2.1 c (by omega)
  have x12 := (h.2.2.2.2.2.2.1 c (by omega)).1
  have x18 := (h.2.2.2.2.2.2.2.1 c (by omega)).1
  have g1 : ¬ nI c < nI 0 := by rw [nI_lt0 (by omega)]; exact id
  have hin4 : vp_in (nI c) 4 := by rw [vp_inE (by omega)]; omega
  have hcl : (nI c).toNatClampNeg = c := nI_clamp (by omega)
  have k0 : σ 28 0 = nI (sNc S) := h.1
  have hsub : nI (sNc S) - nI 1 = nI (sNc S - 1) := pk_sub (by omega)
  have g2 : ¬ nI (sNc S - 1) < nI c := by rw [nI_ltE (by omega) (by omega)]; omega
  rw [nX6_core, bX6_core_0, k0, hsub]
  simp only [g1, g2, hin4, hcl, x7, x8, x12, x18, zb_0, Nat.one_ne_zero, Bool.true_eq_false, Bool.false_eq_true, true_implies, false_implies, not_true_eq_false, not_false_eq_true, true_and, and_true, eq_self, implies_true, z_toL, z_toN, List.cons_append, List.nil_append]
  have hw' : w = 0 ∨ w = 1 ∨ w = 2 ∨ w = 3 ∨ (4 ≤ w) := by omega
  rcases hw' with rfl | rfl | rfl | rfl | h4
  · simp (disch := omega) only [nI_eqE, Nat.reduceEqDiff, Nat.one_ne_zero, Bool.true_eq_false, Bool.false_eq_true, true_implies, false_implies, not_true_eq_false, not_false_eq_true, true_and, and_true, eq_self, implies_true, z_toL, z_toN, List.cons_append, List.nil_append]
    exact hQ
  · simp (disch := omega) only [nI_eqE, Nat.reduceEqDiff, Nat.one_ne_zero, Bool.true_eq_false, Bool.false_eq_true, true_implies, false_implies, not_true_eq_false, not_false_eq_true, true_and, and_true, eq_self, implies_true, z_toL, z_toN, List.cons_append, List.nil_append]
    have hQ : Q (some (.int (zb (sAw S c)))) σ := hQ
    cases ea : sAw S c
    · rw [ea] at hQ; exact ⟨fun _ => hQ, fun z => absurd rfl z⟩
    · rw [ea] at hQ; exact ⟨fun z => absurd z (by decide), fun _ => hQ⟩
  · simp (disch := omega) only [nI_eqE, Nat.reduceEqDiff, Nat.one_ne_zero, Bool.true_eq_false, Bool.false_eq_true, true_implies, false_implies, not_true_eq_false, not_false_eq_true, true_and, and_true, eq_self, implies_true, z_toL, z_toN, List.cons_append, List.nil_append]
    exact hQ
  · simp (disch := omega) only [nI_eqE, Nat.reduceEqDiff, Nat.one_ne_zero, Bool.true_eq_false, Bool.false_eq_true, true_implies, false_implies, not_true_eq_false, not_false_eq_true, true_and, and_true, eq_self, implies_true, z_toL, z_toN, List.cons_append, List.nil_append]
    exact hQ
  · have hf : σ 40 (c * 3 + (w - 4)) = nI (sFg S (c * 3 + (w - 4))) := h.2.2.2.2.2.1 _ (by omega)
    have hQ : Q (some (.int (nI (sFg S (c * 3 + (w - 4)))))) σ := by
      have e : zcoA S c w = nI (sFg S (c * 3 + (w - 4))) := by
        match w, h4 with
        | w + 4, _ => rfl
      rw [e] at hQ
      exact hQ
    have ej : nI 3 * nI c + nI w - nI 4 = nI (c * 3 + (w - 4)) := by rw [pk_mul, nI_add, pk_sub (by omega)]; congr 1; omega
    rw [ej]
    simp (disch := omega) only [nI_eqE, nI_ltE, nI_leE, vp_inE, nI_clamp, hf]
    exact ⟨by omega, by omega, by omega, by omega, fun _ _ _ _ => ⟨fun q => absurd q (by omega), fun _ => ⟨fun q => absurd q (by omega), fun _ => ⟨by omega, hQ⟩⟩⟩⟩
theorem X_note1 {b : Bool} {d : Nat} {Q : zQ} {S : zSt} {σ : zV} {c k w n : Nat} (h : RX S σ) (hI : zI n S) (hc : c < sNc S) (hk : k < (sNo S c).length) (hw : w < 6) (hQ : Q (some (.int (znoA S c k w))) σ) : zCall (zUn b) (d + 5) yX5_note [.ref 0, .int (nI c), .int (nI k), .int (nI w)] σ Q := by
  have hnc := hI.1.1.2
  obtain ⟨g0, z1, z2, z3, z4⟩ := zno hI (show c < 4 by omega) hk
  have x12 := (h.2.2.2.2.2.2.1 c (by omega)).1
  obtain ⟨x1, x2, x3, x4⟩ := (h.2.2.2.2.2.2.1 c (by omega)).2 k hk
  have l1 := zvE_lt z3
  have g1 : ¬ nI c < nI 0 := by rw [nI_lt0 (by omega)]; exact id
  have n0 : ¬ nI k < nI 0 := by rw [nI_lt0 (by omega)]; exact id
  have hin4 : vp_in (nI c) 4 := by rw [vp_inE (by omega)]; omega
  have hcl : (nI c).toNatClampNeg = c := nI_clamp (by omega)
  have hw' : w = 0 ∨ w = 1 ∨ w = 2 ∨ w = 3 ∨ w = 4 ∨ w = 5 := by omega
  have k5 : σ 0 5 = nI (sNc S) := h.1
  have g2 : ¬ nI (sNc S) ≤ nI c := by rw [nI_leE (by omega) (by omega)]; omega
  have n6 : ¬ nI (sNo S c).length ≤ nI k := by rw [nI_leE (by omega) (by omega)]; omega
  have e1 : nI c * nI 4 + nI k = nI (c * 4 + k) := by rw [pk_mul, nI_add]
  have in1 : vp_in (nI (c * 4 + k)) 16 := by rw [vp_inE (by omega)]; omega
  have cl1 : (nI (c * 4 + k)).toNatClampNeg = c * 4 + k := nI_clamp (by omega)
  rw [nX5_note, bX5_note_0, k5]
  simp only [g1, g2, hin4, hcl, x12, n0, n6, e1, in1, cl1, x1, x2, x3, x4, Nat.one_ne_zero, Bool.true_eq_false, Bool.false_eq_true, true_implies, false_implies, not_true_eq_false, not_false_eq_true, true_and, and_true, eq_self, implies_true, z_toL, z_toN, List.cons_append, List.nil_append]
  rcases hw' with rfl | rfl | rfl | rfl | rfl | rfl
  · simp (disch := omega) only [nI_eqE, Nat.reduceEqDiff, Nat.one_ne_zero, Bool.true_eq_false, Bool.false_eq_true, true_implies, false_implies, not_true_eq_false, not_false_eq_true, true_and, and_true, eq_self, implies_true, z_toL, z_toN, List.cons_append, List.nil_append]
    exact hQ
  · simp (disch := omega) only [nI_eqE, Nat.reduceEqDiff, Nat.one_ne_zero, Bool.true_eq_false, Bool.false_eq_true, true_implies, false_implies, not_true_eq_false, not_false_eq_true, true_and, and_true, eq_self, implies_true, z_toL, z_toN, List.cons_append, List.nil_append]
    exact hQ
  · simp (disch := omega) only [nI_eqE, Nat.reduceEqDiff, Nat.one_ne_zero, Bool.true_eq_false, Bool.false_eq_true, true_implies, false_implies, not_true_eq_false, not_false_eq_true, true_and, and_true, eq_self, implies_true, z_toL, z_toN, List.cons_append, List.nil_append]
    exact zef_X (P := fun x => Q (some (.int x)) σ) z3 z4 hQ
  · simp (disch := omega) only [nI_eqE, Nat.reduceEqDiff, Nat.one_ne_zero, Bool.true_eq_false, Bool.false_eq_true, true_implies, false_implies, not_true_eq_false, not_false_eq_true, true_and, and_true, eq_self, implies_true, z_toL, z_toN, List.cons_append, List.nil_append]
    have hQ : Q (some (.int (if 768 ≤ (zg (sNo S c) k zn0).2.2.1 then nI 1 else nI 0))) σ := hQ
    have nlt : (zt (zg (sNo S c) k zn0).2.2.1 < nI 256) = ¬ (768 ≤ (zg (sNo S c) k zn0).2.2.1) := by
      rw [← zt_w z3, Int32.lt_iff_toInt_lt, Int32.le_iff_toInt_le]
      exact propext ⟨fun a b => by omega, fun a => by omega⟩
    rw [nlt]
    refine ⟨fun q => ?_, fun q => ?_⟩
    · rw [if_neg q] at hQ; exact hQ
    · rw [if_pos (Classical.not_not.mp q)] at hQ; exact hQ
  · simp (disch := omega) only [nI_eqE, Nat.reduceEqDiff, Nat.one_ne_zero, Bool.true_eq_false, Bool.false_eq_true, true_implies, false_implies, not_true_eq_false, not_false_eq_true, true_and, and_true, eq_self, implies_true, z_toL, z_toN, List.cons_append, List.nil_append]
    exact hQ
  · simp (disch := omega) only [nI_eqE, Nat.reduceEqDiff, Nat.one_ne_zero, Bool.true_eq_false, Bool.false_eq_true, true_implies, false_implies, not_true_eq_false, not_false_eq_true, true_and, and_true, eq_self, implies_true, z_toL, z_toN, List.cons_append, List.nil_append]
    have hQ : Q (some (.int (zb (zstl S (zg (sNo S c) k zn0))))) σ := hQ
    refine X_stale (d := d) h hI (by omega) hk ?_
    simp only [z_toL, List.cons_append, List.nil_append]
    rw [bX5_note_117]
    cases ea : zstl S (zg (sNo S c) k zn0)
    · rw [ea] at hQ; exact ⟨fun _ => hQ, fun z => absurd rfl z⟩
    · rw [ea] at hQ; exact ⟨fun z => absurd z (by decide), fun _ => hQ⟩
theorem M_note1 {d : Nat} {Q : zQ} {S : zSt} {σ : zV} {c k w n : Nat} (h : RM S σ) (hI : zI n S) (hc : c < sNc S) (hk : k < (sNo S c).length) (hw : w < 6) (hQ : Q (some (.int (znoA S c k w))) σ) : zCall (zUn true) (d + 4) yX6_note [.ref 28, .int (nI c), .int (nI k), .int (nI w)] σ Q := by
  have hnc := hI.1.1.2
  obtain ⟨g0, z1, z2, z3, z4⟩ := zno hI (show c < 4 by omega) hk
  have x12 := (h.2.2.2.2.2.2.1 c (by omega)).1
  obtain ⟨x1, x2, x3, x4⟩ := (h.2.2.2.2.2.2.1 c (by omega)).2 k hk
  have l1 := zvE_lt z3
  have g1 : ¬ nI c < nI 0 := by rw [nI_lt0 (by omega)]; exact id
  have n0 : ¬ nI k < nI 0 := by rw [nI_lt0 (by omega)]; exact id
  have hin4 : vp_in (nI c) 4 := by rw [vp_inE (by omega)]; omega
  have hcl : (nI c).toNatClampNeg = c := nI_clamp (by omega)
  have hw' : w = 0 ∨ w = 1 ∨ w = 2 ∨ w = 3 ∨ w = 4 ∨ w = 5 := by omega
  have k0 : σ 28 0 = nI (sNc S) := h.1
  have hsub : nI (sNc S) - nI 1 = nI (sNc S - 1) := pk_sub (by omega)
  have g2 : ¬ nI (sNc S - 1) < nI c := by rw [nI_ltE (by omega) (by omega)]; omega
  have n6 : ¬ nI (sNo S c).length - nI 1 < nI k := by rw [pk_sub (by omega), nI_ltE (by omega) (by omega)]; omega
  have e0 : nI 20 * nI c + nI 5 * nI k = nI (c * 20 + k * 5) := by rw [pk_mul, pk_mul, nI_add, zc20, zc5]
  have in2 : ∀ i, i < 5 → vp_in (nI (c * 20 + k * 5 + i)) 80 := fun i hi => by rw [vp_inE (by omega)]; omega
  have cl2 : ∀ i, i < 5 → (nI (c * 20 + k * 5 + i)).toNatClampNeg = c * 20 + k * 5 + i := fun i hi => nI_clamp (by omega)
  have j0 : vp_in (nI (c * 20 + k * 5)) 80 := in2 0 (by omega)
  have j1 := in2 1 (by omega)
  have j2 := in2 2 (by omega)
  have j3 := in2 3 (by omega)
  have i0 : (nI (c * 20 + k * 5)).toNatClampNeg = c * 20 + k * 5 := cl2 0 (by omega)
  have i1 := cl2 1 (by omega)
  have i2 := cl2 2 (by omega)
  have i3 := cl2 3 (by omega)
  rw [nX6_note, bX6_note_0, k0, hsub]
  simp only [g1, g2, hin4, hcl, x12, n0, n6, e0, nI_add, i0, i1, i2, i3, j0, j1, j2, j3, x1, x2, x3, x4, Nat.one_ne_zero, Bool.true_eq_false, Bool.false_eq_true, true_implies, false_implies, not_true_eq_false, not_false_eq_true, true_and, and_true, eq_self, implies_true, z_toL, z_toN, List.cons_append, List.nil_append]
  rcases hw' with rfl | rfl | rfl | rfl | rfl | rfl
  · simp (disch := omega) only [nI_eqE, Nat.reduceEqDiff, Nat.one_ne_zero, Bool.true_eq_false, Bool.false_eq_true, true_implies, false_implies, not_true_eq_false, not_false_eq_true, true_and, and_true, eq_self, implies_true, z_toL, z_toN, List.cons_append, List.nil_append]
    exact hQ
  · simp (disch := omega) only [nI_eqE, Nat.reduceEqDiff, Nat.one_ne_zero, Bool.true_eq_false, Bool.false_eq_true, true_implies, false_implies, not_true_eq_false, not_false_eq_true, true_and, and_true, eq_self, implies_true, z_toL, z_toN, List.cons_append, List.nil_append]
    exact hQ
  · simp (disch := omega) only [nI_eqE, Nat.reduceEqDiff, Nat.one_ne_zero, Bool.true_eq_false, Bool.false_eq_true, true_implies, false_implies, not_true_eq_false, not_false_eq_true, true_and, and_true, eq_self, implies_true, z_toL, z_toN, List.cons_append, List.nil_append]
    have := zef_M (P := fun x => Q (some (.int x)) σ) z3 z4 hQ
    simp (disch := omega) only [nI_eqE] at this
    exact this
  · simp (disch := omega) only [nI_eqE, Nat.reduceEqDiff, Nat.one_ne_zero, Bool.true_eq_false, Bool.false_eq_true, true_implies, false_implies, not_true_eq_false, not_false_eq_true, true_and, and_true, eq_self, implies_true, z_toL, z_toN, List.cons_append, List.nil_append]
    have hQ : Q (some (.int (if 768 ≤ (zg (sNo S c) k zn0).2.2.1 then nI 1 else nI 0))) σ := hQ
    refine ⟨fun q => ?_, fun q => ?_⟩
    · rw [nI_ltE (by omega) (by omega)] at q
      rw [if_neg (by omega)] at hQ; exact hQ
    · rw [nI_ltE (by omega) (by omega)] at q
      rw [if_pos (by omega)] at hQ; exact hQ
  · simp (disch := omega) only [nI_eqE, Nat.reduceEqDiff, Nat.one_ne_zero, Bool.true_eq_false, Bool.false_eq_true, true_implies, false_implies, not_true_eq_false, not_false_eq_true, true_and, and_true, eq_self, implies_true, z_toL, z_toN, List.cons_append, List.nil_append]
    exact hQ
  · simp (disch := omega) only [nI_eqE, Nat.reduceEqDiff, Nat.one_ne_zero, Bool.true_eq_false, Bool.false_eq_true, true_implies, false_implies, not_true_eq_false, not_false_eq_true, true_and, and_true, eq_self, implies_true, z_toL, z_toN, List.cons_append, List.nil_append]
    have hQ : Q (some (.int (zb (zstl S (zg (sNo S c) k zn0))))) σ := hQ
    refine M_stale (d := d + 2) h hI (by omega) hk ?_
    simp only [z_toL, List.cons_append, List.nil_append]
    rw [bX6_note_132]
    cases ea : zstl S (zg (sNo S c) k zn0)
    · rw [ea] at hQ; exact ⟨fun _ => hQ, fun z => absurd rfl z⟩
    · rw [ea] at hQ; exact ⟨fun z => absurd z (by decide), fun _ => hQ⟩

/-! both sides: rounds -/
def rd (S : zSt) (c : Nat) : Nat → zSt × Nat × Nat
  | 0 => (S, c, 0)
  | i + 1 => (sTk (rd S c i).2.1 (sInc 1 (rd S c i).1), if (rd S c i).2.1 + 1 < sNc S then (rd S c i).2.1 + 1 else 0, if zTk (rd S c i).2.1 (sInc 1 (rd S c i).1) = -nI 1 then (rd S c i).2.2 else (rd S c i).2.2 + 1)
theorem sTk_nc {c : Nat} {S : zSt} : sNc (sTk c S) = sNc S := by
  unfold sTk
  cases sQu S c with
  | nil => rfl
  | cons k t => rfl
theorem rd_ok {n c : Nat} {S : zSt} (hI : zI n S) (hc : c < sNc S) (hn : n < 2 ^ 29) : ∀ i, i ≤ 60 → sNc (rd S c i).1 = sNc S ∧ (rd S c i).2.1 < sNc S ∧ (rd S c i).2.2 ≤ i ∧ zI (n + i) (rd S c i).1 := by
  intro i
  induction i with
  | zero => intro _; exact ⟨rfl, hc, Nat.le_refl _, hI⟩
  | succ i ih =>
    intro hi
    obtain ⟨h1, h2, h3, h4⟩ := ih (by omega)
    have hnc := hI.1.1.2
    refine ⟨?_, ?_, ?_, ?_⟩
    · show sNc (sTk _ _) = _
      rw [sTk_nc]
      exact h1
    · show (if _ then _ else _) < _
      split <;> omega
    · show (if zTk (rd S c i).2.1 (sInc 1 (rd S c i).1) = -nI 1 then (rd S c i).2.2 else (rd S c i).2.2 + 1) ≤ i + 1
      generalize (rd S c i).2.2 = w at h3
      split <;> omega
    · exact zI_tk (zI_time h4) (by omega) (by omega)
theorem X_rounds {d : Nat} {Q : zQ} {S : zSt} {σ : zV} {c n m : Nat} (h : RX S σ) (hI : zI n S) (hn : n < 2 ^ 29) (hc : c < sNc S) (hm : m ≤ 60) (x1 : Int32) (hQ : ∀ σ', RX (rd S c m).1 σ' → zXo σ σ' → Q (some (.int (nI (rd S c m).2.2))) σ') : eX5_rounds true (d + 4) Q 33 [.ref 0, .int x1, .int (nI m), .int (nI 0), .int (nI c), .int (nI 0)] [] σ := by
  have hnc := hI.1.1.2
  have loop : ∀ j i σ', j + i = m → RX (rd S c i).1 σ' → zXo σ σ' → eX5_rounds true (d + 4) Q 33 [.ref 0, .int x1, .int (nI m), .int (nI (rd S c i).2.2), .int (nI (rd S c i).2.1), .int (nI i)] [] σ' := by
    intro j
    induction j with
    | zero =>
      intro i σ' hi hR o
      have hi : i = m := by omega
      subst hi
      rw [bX5_rounds_33]
      exact ⟨fun _ => hQ σ' hR o, fun q => absurd (Int32.le_refl _) q⟩
    | succ j ih =>
      intro i σ' hi hR o
      obtain ⟨g1, g2, g3, g4⟩ := rd_ok hI hc hn i (by omega)
      have hle : ¬ nI m ≤ nI i := by rw [nI_leE (by omega) (by omega)]; omega
      have k6 : σ' 0 6 = sSc (rd S c i).1 1 := hR.2.1.1
      have mX : RX (sInc 1 (rd S c i).1) (zput σ' 0 6 (sSc (rd S c i).1 1 + nI 1)) := RX_set hR 1 (by omega) (by omega) _
      rw [bX5_rounds_33, k6]
      refine ⟨fun q => absurd q hle, fun _ => X_tk (d := d) mX (zI_time g4) (by omega) (by omega) (fun σ1 m1 o1 => ?_)⟩
      have o2 := zXo_tr o (zXo_tr (zXo_put (a := 0) (k := 6) (x := sSc (rd S c i).1 1 + nI 1) (by omega)) o1)
      have k5 : σ1 0 5 = nI (sNc S) := by
        have := m1.1
        unfold XC at this
        rw [this, sTk_nc]
        exact congrArg nI g1
      have hnx := ih (i + 1) σ1 (by omega) m1 o2
      simp only [z_toL, List.cons_append, List.nil_append]
      rw [bX5_rounds_55, k5]
      simp (disch := omega) only [nI_add, nI_leE]
      have e1 : (rd S c (i + 1)).2.1 = if (rd S c i).2.1 + 1 < sNc S then (rd S c i).2.1 + 1 else 0 := rfl
      have e2 : (rd S c (i + 1)).2.2 = if zTk (rd S c i).2.1 (sInc 1 (rd S c i).1) = -nI 1 then (rd S c i).2.2 else (rd S c i).2.2 + 1 := rfl
      rw [e1, e2] at hnx
      refine ⟨fun q => ⟨fun q2 => ?_, fun q2 => ?_⟩, fun q => ⟨fun q2 => ?_, fun q2 => ?_⟩⟩
      · rw [if_pos q, if_neg (by omega)] at hnx; exact hnx
      · rw [if_pos q, if_pos (by omega)] at hnx; exact hnx
      · rw [if_neg q, if_neg (by omega)] at hnx; exact hnx
      · rw [if_neg q, if_pos (by omega)] at hnx; exact hnx
  exact loop m 0 σ rfl h zXo_rf
theorem M_rounds {d : Nat} {Q : zQ} {S : zSt} {σ : zV} {c n m : Nat} (h : RM S σ) (hI : zI n S) (hn : n < 2 ^ 29) (hc : c < sNc S) (hm : m ≤ 60) (x1 : Int32) (hQ : ∀ σ', RM (rd S c m).1 σ' → zMo σ σ' → Q (some (.int (nI (rd S c m).2.2))) σ') : eX6_rounds (d + 3) Q 32 [.ref 28, .int x1, .int (nI m), .int (nI 0), .int (nI c), .int (nI 0)] [] σ := by
  have hnc := hI.1.1.2
  have loop : ∀ j i σ', j + i = m → RM (rd S c i).1 σ' → zMo σ σ' → eX6_rounds (d + 3) Q 32 [.ref 28, .int x1, .int (nI m), .int (nI (rd S c i).2.2), .int (nI (rd S c i).2.1), .int (nI i)] [] σ' := by
    intro j
    induction j with
    | zero =>
      intro i σ' hi hR o
      have hi : i = m := by omega
      subst hi
      rw [bX6_rounds_32]
      exact ⟨fun _ => hQ σ' hR o, fun q => absurd (Int32.le_refl _) q⟩
    | succ j ih =>
      intro i σ' hi hR o
      obtain ⟨g1, g2, g3, g4⟩ := rd_ok hI hc hn i (by omega)
      have hle : ¬ nI m ≤ nI i := by rw [nI_leE (by omega) (by omega)]; omega
      have k1 : σ' 28 1 = sSc (rd S c i).1 1 := hR.2.1.1
      have mM : RM (sInc 1 (rd S c i).1) (zput σ' 28 1 (sSc (rd S c i).1 1 + nI 1)) := RM_set1 hR _
      rw [bX6_rounds_32, k1]
      refine ⟨fun q => absurd q hle, fun _ => M_tk (d := d) mM (zI_time g4) (by omega) (fun σ1 m1 o1 => ?_)⟩
      have o2 := zMo_tr o (zMo_tr (zMo_put (a := 28) (k := 1) (x := sSc (rd S c i).1 1 + nI 1) (by omega)) o1)
      have k0 : σ1 28 0 = nI (sNc S) := by
        have := m1.1
        unfold MC at this
        rw [this, sTk_nc]
        exact congrArg nI g1
      have hnx := ih (i + 1) σ1 (by omega) m1 o2
      have hsub : nI (sNc S) - nI 1 = nI (sNc S - 1) := pk_sub (by omega)
      simp only [z_toL, List.cons_append, List.nil_append]
      rw [bX6_rounds_55, k0, hsub]
      simp (disch := omega) only [nI_add, nI_eqE, Nat.add_zero]
      have e1 : (rd S c (i + 1)).2.1 = if (rd S c i).2.1 + 1 < sNc S then (rd S c i).2.1 + 1 else 0 := rfl
      have e2 : (rd S c (i + 1)).2.2 = if zTk (rd S c i).2.1 (sInc 1 (rd S c i).1) = -nI 1 then (rd S c i).2.2 else (rd S c i).2.2 + 1 := rfl
      rw [e1, e2] at hnx
      refine ⟨fun q => ⟨fun q2 => ?_, fun q2 => ?_⟩, fun q => ⟨fun q2 => ?_, fun q2 => ?_⟩⟩
      · rw [if_pos q, if_pos (by omega)] at hnx; exact hnx
      · rw [if_pos q, if_neg (by omega)] at hnx; exact hnx
      · rw [if_neg q, if_pos (by omega)] at hnx; exact hnx
      · rw [if_neg q, if_neg (by omega)] at hnx; exact hnx
  exact loop m 0 σ rfl h zMo_rf
theorem J_rounds {n : Nat} {σ : zV} (h : Rel n σ) (hn : n < 2 ^ 20) (v1 v2 : Int32) : zJ yX5_rounds yX6_rounds [.int v1, .int v2] σ (n + 60) := by
  have h' := Rel_wk h (show n ≤ n + 60 by omega)
  obtain ⟨S, hX, hM, hI⟩ := h
  have hnc1 := hI.1.1.1
  have hnc := hI.1.1.2
  have k5 : σ 0 5 = nI (sNc S) := hX.1
  have k0 : σ 28 0 = nI (sNc S) := hM.1
  have k6 : σ 0 6 = sSc S 1 := hX.2.1.1
  have k1 : σ 28 1 = sSc S 1 := hM.2.1.1
  have hsub : nI (sNc S) - nI 1 = nI (sNc S - 1) := pk_sub (by omega)
  unfold zJ
  rcases ziy v1 (sNc S) (by omega) (by omega) with g | ⟨g1, g2, g3⟩ | ⟨c, hc, rfl, f1a, f1b, f1c⟩
  · rw [nX5_rounds, bX5_rounds_0]
    simp only [k5, g, Nat.one_ne_zero, Bool.true_eq_false, Bool.false_eq_true, true_implies, false_implies, not_true_eq_false, not_false_eq_true, true_and, and_true, eq_self, implies_true, z_toL, z_toN, List.cons_append, List.nil_append]
    rw [nX6_rounds, bX6_rounds_0]
    simp only [k0, hsub, g, Nat.one_ne_zero, Bool.true_eq_false, Bool.false_eq_true, true_implies, false_implies, not_true_eq_false, not_false_eq_true, true_and, and_true, eq_self, implies_true, z_toL, z_toN, List.cons_append, List.nil_append]
    exact ⟨_, rfl, rfl, h'⟩
  · rw [nX5_rounds, bX5_rounds_0]
    simp only [k5, g1, g2, Nat.one_ne_zero, Bool.true_eq_false, Bool.false_eq_true, true_implies, false_implies, not_true_eq_false, not_false_eq_true, true_and, and_true, eq_self, implies_true, z_toL, z_toN, List.cons_append, List.nil_append]
    rw [nX6_rounds, bX6_rounds_0]
    simp only [k0, hsub, g1, g3, Nat.one_ne_zero, Bool.true_eq_false, Bool.false_eq_true, true_implies, false_implies, not_true_eq_false, not_false_eq_true, true_and, and_true, eq_self, implies_true, z_toL, z_toN, List.cons_append, List.nil_append]
    exact ⟨_, rfl, rfl, h'⟩
  have hcut := True.intro
  have mm : (v2 < nI 1 ∨ (¬ v2 < nI 1 ∧ nI 60 < v2)) → zCall (zUn true) 8 yX6_rounds [.ref 28, .int (nI c), .int v2] σ (fun v' σ2 => ∃ r, some (Value.int (-nI 102)) = some (Value.int r) ∧ v' = some (Value.int r) ∧ Rel (n + 60) σ2) := by
    intro q
    rw [nX6_rounds, bX6_rounds_0]
    simp only [f1a, f1b, f1c, k0, hsub, Nat.one_ne_zero, Bool.true_eq_false, Bool.false_eq_true, true_implies, false_implies, not_true_eq_false, not_false_eq_true, true_and, and_true, eq_self, implies_true, z_toL, z_toN, List.cons_append, List.nil_append]
    rcases q with q | ⟨q1, q2⟩
    · exact ⟨fun _ => ⟨_, rfl, rfl, h'⟩, fun z => absurd q z⟩
    · exact ⟨fun z => absurd z q1, fun _ => ⟨fun _ => ⟨_, rfl, rfl, h'⟩, fun z => absurd q2 z⟩⟩
  rw [nX5_rounds, bX5_rounds_0]
  simp only [f1a, f1b, f1c, k5, Nat.one_ne_zero, Bool.true_eq_false, Bool.false_eq_true, true_implies, false_implies, not_true_eq_false, not_false_eq_true, true_and, and_true, eq_self, implies_true, z_toL, z_toN, List.cons_append, List.nil_append]
  have out : ∀ k, k = 61 → (v2 < nI 0 ∨ (¬ v2 < nI 0 ∧ nI k ≤ v2 ∧ nI (k - 1) < v2)) → (v2 < nI 1 ∨ (¬ v2 < nI 1 ∧ nI 60 < v2)) ∧ (v2 < nI 1 ∨ (¬ v2 < nI 1 ∧ ¬ v2 ≤ nI 60)) := by
    intro k hk g
    have p := zoutm (k := 1) (n := k) g (by omega) (by omega)
    subst hk
    refine ⟨p, ?_⟩
    rcases p with p | ⟨p1, p2⟩
    · exact Or.inl p
    · refine Or.inr ⟨p1, fun q => ?_⟩
      rw [Int32.le_iff_toInt_le] at q
      have p3 : nI 60 < v2 := p2
      rw [Int32.lt_iff_toInt_lt] at p3
      omega
  rcases zix v2 61 (by omega) (by omega) with g | g | ⟨m, hm, rfl⟩
  · obtain ⟨o1, o2⟩ := out 61 rfl (Or.inl g)
    rcases o2 with o2 | ⟨o2, o3⟩
    · exact ⟨fun _ => mm o1, fun q => absurd o2 q⟩
    · exact ⟨fun q => absurd q o2, fun _ => ⟨fun q => absurd q o3, fun _ => mm o1⟩⟩
  · obtain ⟨o1, o2⟩ := out 61 rfl (Or.inr g)
    rcases o2 with o2 | ⟨o2, o3⟩
    · exact ⟨fun _ => mm o1, fun q => absurd o2 q⟩
    · exact ⟨fun q => absurd q o2, fun _ => ⟨fun q => absurd q o3, fun _ => mm o1⟩⟩
  · refine ⟨fun q => mm (Or.inl q), fun q => ⟨fun _ => ?_, fun q2 => absurd ?_ q2⟩⟩
    · refine X_rounds (d := 3) (m := m) hX hI (by omega) hc (by omega) _ (fun σ1 m1 o1 => ?_)
      have hM1 := RM_xo hM o1
      have k0' : σ1 28 0 = nI (sNc S) := hM1.1
      have n60 : ¬ nI 60 < nI m := by rw [nI_ltE (by omega) (by omega)]; omega
      rw [nX6_rounds, bX6_rounds_0]
      simp only [f1a, f1b, f1c, k0', hsub, q, n60, Nat.one_ne_zero, Bool.true_eq_false, Bool.false_eq_true, true_implies, false_implies, not_true_eq_false, not_false_eq_true, true_and, and_true, eq_self, implies_true, z_toL, z_toN, List.cons_append, List.nil_append]
      refine M_rounds (d := 4) (m := m) hM1 hI (by omega) hc (by omega) _ (fun σ2 m2 o2 => ?_)
      exact ⟨_, rfl, rfl, _, RX_mo m1 o2, m2, zI_wk (rd_ok hI hc (by omega) m (by omega)).2.2.2 (by omega)⟩
    · rw [nI_leE (by omega) (by omega)]; omega

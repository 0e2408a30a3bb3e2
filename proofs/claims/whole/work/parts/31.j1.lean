/-! both sides: map, wake, take, sleep, enter -/
theorem ziy (x : Int32) (n : Nat) (h0 : 0 < n) (hn : n < 2 ^ 30) : x < nI 0 ∨ (¬ x < nI 0 ∧ nI n ≤ x ∧ nI (n - 1) < x) ∨ ∃ j, j < n ∧ x = nI j ∧ ¬ nI j < nI 0 ∧ ¬ nI n ≤ nI j ∧ ¬ nI (n - 1) < nI j := by
  rcases zix x n h0 hn with h | h | ⟨j, h1, h2⟩
  · exact Or.inl h
  · exact Or.inr (Or.inl h)
  · refine Or.inr (Or.inr ⟨j, h1, h2, ?_, ?_, ?_⟩)
    · rw [nI_ltE (by omega) (by omega)]; omega
    · rw [nI_leE (by omega) (by omega)]; omega
    · rw [nI_ltE (by omega) (by omega)]; omega
theorem sInc_1 (S : zSt) : sSc (sInc 1 S) 1 = sSc S 1 + nI 1 := by
  show va_up (sSc S) 1 (sSc S 1 + nI 1) 1 = _
  rw [va_up_self]
theorem zt_f0 {f : Nat} (h : f < 256) : zt (f + 256) = nI f := by
  rw [zt, if_neg (by omega), if_neg (by omega), Nat.add_sub_cancel]
theorem zt_f1 {f : Nat} (h : f < 256) : zt (f + 768) = nI (f + 256) := by
  rw [zt, if_neg (by omega), if_pos (by omega), show f + 768 - 512 = f + 256 by omega]
theorem J_map {n : Nat} {σ : zV} (h : Rel n σ) (v1 v2 v3 v4 : Int32) : zJ yX5_map yX6_map [.int v1, .int v2, .int v3, .int v4] σ (n + 1) := by
  have h' := Rel_wk h (show n ≤ n + 1 by omega)
  obtain ⟨S, hX, hM, hI⟩ := h
  have hnc1 := hI.1.1.1
  have hnc := hI.1.1.2
  have k5 : σ 0 5 = nI (sNc S) := hX.1
  have k0 : σ 28 0 = nI (sNc S) := hM.1
  have k6 : σ 0 6 = sSc S 1 := hX.2.1.1
  have k1 : σ 28 1 = sSc S 1 := hM.2.1.1
  have hsub : nI (sNc S) - nI 1 = nI (sNc S - 1) := pk_sub (by omega)
  unfold zJ
  rcases ziy v1 3 (by omega) (by omega) with g | ⟨g1, g2, g3⟩ | ⟨s, hs, rfl, f1a, f1b, f1c⟩
  · rw [nX5_map, bX5_map_0]
    simp only [k5, g, Bool.true_eq_false, Bool.false_eq_true, true_implies, false_implies, not_true_eq_false, not_false_eq_true, true_and, and_true, eq_self, implies_true, z_toL, z_toN, List.cons_append, List.nil_append]
    rw [nX6_map, bX6_map_0]
    simp only [k0, hsub, g, Bool.true_eq_false, Bool.false_eq_true, true_implies, false_implies, not_true_eq_false, not_false_eq_true, true_and, and_true, eq_self, implies_true, z_toL, z_toN, List.cons_append, List.nil_append]
    exact ⟨_, rfl, rfl, h'⟩
  · rw [nX5_map, bX5_map_0]
    simp only [k5, g1, g2, Bool.true_eq_false, Bool.false_eq_true, true_implies, false_implies, not_true_eq_false, not_false_eq_true, true_and, and_true, eq_self, implies_true, z_toL, z_toN, List.cons_append, List.nil_append]
    rw [nX6_map, bX6_map_0]
    simp only [k0, hsub, g1, g3, Bool.true_eq_false, Bool.false_eq_true, true_implies, false_implies, not_true_eq_false, not_false_eq_true, true_and, and_true, eq_self, implies_true, z_toL, z_toN, List.cons_append, List.nil_append]
    exact ⟨_, rfl, rfl, h'⟩
  rcases ziy v2 16 (by omega) (by omega) with g | ⟨g1, g2, g3⟩ | ⟨p, hp, rfl, f2a, f2b, f2c⟩
  · rw [nX5_map, bX5_map_0]
    simp only [f1a, f1b, f1c, k5, g, Bool.true_eq_false, Bool.false_eq_true, true_implies, false_implies, not_true_eq_false, not_false_eq_true, true_and, and_true, eq_self, implies_true, z_toL, z_toN, List.cons_append, List.nil_append]
    rw [nX6_map, bX6_map_0]
    simp only [f1a, f1b, f1c, k0, hsub, g, Bool.true_eq_false, Bool.false_eq_true, true_implies, false_implies, not_true_eq_false, not_false_eq_true, true_and, and_true, eq_self, implies_true, z_toL, z_toN, List.cons_append, List.nil_append]
    exact ⟨_, rfl, rfl, h'⟩
  · rw [nX5_map, bX5_map_0]
    simp only [f1a, f1b, f1c, k5, g1, g2, Bool.true_eq_false, Bool.false_eq_true, true_implies, false_implies, not_true_eq_false, not_false_eq_true, true_and, and_true, eq_self, implies_true, z_toL, z_toN, List.cons_append, List.nil_append]
    rw [nX6_map, bX6_map_0]
    simp only [f1a, f1b, f1c, k0, hsub, g1, g3, Bool.true_eq_false, Bool.false_eq_true, true_implies, false_implies, not_true_eq_false, not_false_eq_true, true_and, and_true, eq_self, implies_true, z_toL, z_toN, List.cons_append, List.nil_append]
    exact ⟨_, rfl, rfl, h'⟩
  rcases ziy v3 256 (by omega) (by omega) with g | ⟨g1, g2, g3⟩ | ⟨f, hf, rfl, f3a, f3b, f3c⟩
  · rw [nX5_map, bX5_map_0]
    simp only [f1a, f1b, f1c, f2a, f2b, f2c, k5, g, Bool.true_eq_false, Bool.false_eq_true, true_implies, false_implies, not_true_eq_false, not_false_eq_true, true_and, and_true, eq_self, implies_true, z_toL, z_toN, List.cons_append, List.nil_append]
    rw [nX6_map, bX6_map_0]
    simp only [f1a, f1b, f1c, f2a, f2b, f2c, k0, hsub, g, Bool.true_eq_false, Bool.false_eq_true, true_implies, false_implies, not_true_eq_false, not_false_eq_true, true_and, and_true, eq_self, implies_true, z_toL, z_toN, List.cons_append, List.nil_append]
    exact ⟨_, rfl, rfl, h'⟩
  · rw [nX5_map, bX5_map_0]
    simp only [f1a, f1b, f1c, f2a, f2b, f2c, k5, g1, g2, Bool.true_eq_false, Bool.false_eq_true, true_implies, false_implies, not_true_eq_false, not_false_eq_true, true_and, and_true, eq_self, implies_true, z_toL, z_toN, List.cons_append, List.nil_append]
    rw [nX6_map, bX6_map_0]
    simp only [f1a, f1b, f1c, f2a, f2b, f2c, k0, hsub, g1, g3, Bool.true_eq_false, Bool.false_eq_true, true_implies, false_implies, not_true_eq_false, not_false_eq_true, true_and, and_true, eq_self, implies_true, z_toL, z_toN, List.cons_append, List.nil_append]
    exact ⟨_, rfl, rfl, h'⟩
  have hcut := True.intro
  obtain ⟨a1, a2, a3, a4, a5⟩ := zX_now hX hI hs hp
  have a6 := zM_now hM hs hp
  have a7 := zvE_lt a5
  have mX : RX (sInc 1 S) (zput σ 0 6 (sSc S 1 + nI 1)) := RX_set hX 1 (by omega) (by omega) _
  have hIh : zIH (sHi S) := hI.1.2.2.1
  by_cases h0 : zlast (sHi S (s * 16 + p)) = 0
  · have main : ∀ e w : Nat, zvE e → e ≠ 0 → zt e = nI w → (v4 = nI 0 → e = f + 256) → (¬ v4 = nI 0 → e = f + 768) → zCall (zUn true) 7 yX4_change [.ref 1, .int (nI s), .int (nI p), .int (nI w), .int (sSc S 1 + nI 1)] (zput σ 0 6 (sSc S 1 + nI 1)) (fun v σ1 => eX5_map true 7 (fun v σ1 => zCall (zUn true) 8 yX6_map [.ref 28, .int (nI s), .int (nI p), .int (nI f), .int v4] σ1 (fun v' σ2 => ∃ r, v = some (.int r) ∧ v' = some (.int r) ∧ Rel (n + 1) σ2)) 72 [.ref 0, .int (nI s), .int (nI p), .int (nI f), .int v4] (v.toList ++ []) σ1) := by
      intro e w he he0 hw w0 w1
      rw [← hw]
      refine X_change (d := 5) (e := e) mX.2.2.2.1 hIh hs hp (fun σ1 o1 m1 => ?_)
      have et : sSc (sInc 1 S) 1 = sSc S 1 + nI 1 := sInc_1 S
      rw [← et] at m1
      have m1 := RX_hist (S := sInc 1 S) mX o1 m1
      have xo : zXo σ σ1 := zXo_tr (zXo_put (by omega)) (zXo_of o1 rfl)
      have hM1 := RM_xo hM xo
      have k1' : σ1 28 1 = sSc S 1 := hM1.2.1.1
      have k0' : σ1 28 0 = nI (sNc S) := hM1.1
      have a6' := zM_now hM1 hs hp
      rw [h0] at a6'
      have mM : RM (sInc 1 S) (zput σ1 28 1 (sSc S 1 + nI 1)) := RM_set1 hM1 _
      have fin : ∀ (ee : Nat), ee = e → zCall (zUn true) 7 yX6_become [.ref 28, .int (nI (s * 16 + p)), .int (nI ee)] (zput σ1 28 1 (sSc S 1 + nI 1)) (fun v σ' => eX6_map 7 (fun v' σ2 => ∃ r, some (Value.int (nI 1)) = some (.int r) ∧ v' = some (.int r) ∧ Rel (n + 1) σ2) 68 [.ref 28, .int (nI s), .int (nI p), .int (nI f), .int v4] (v.toList ++ []) σ') := by
        intro ee hee
        subst hee
        refine M_become (d := 6) (t := sSc S 1 + nI 1) mM.2.2.2.1 hIh (by omega) zput_ii (fun σ2 o2 m2 => ?_)
        rw [← et] at m2
        have m2 := RM_hist (S := sInc 1 S) mM o2 m2
        simp only [z_toN, List.nil_append]
        rw [bX6_map_68]
        exact ⟨_, rfl, rfl, sHist (s * 16 + p) ee (sInc 1 S), RX_mo m1 (zMo_tr (zMo_put (by omega)) (zMo_of o2 rfl)), m2, ⟨zInv_hist (zInv_time hI.1) he, hI.2⟩⟩
      simp only [z_toN, List.nil_append]
      rw [bX5_map_72, nX6_map, bX6_map_0]
      simp only [f1a, f1b, f1c, f2a, f2b, f2c, f3a, f3b, f3c, Bool.true_eq_false, Bool.false_eq_true, true_implies, false_implies, not_true_eq_false, not_false_eq_true, true_and, and_true, eq_self, implies_true, z_toL, z_toN, List.cons_append, List.nil_append]
      simp (disch := omega) only [nI_add, pk_mul, nI_clamp, vp_inE, zc3, zc4, zc5, zc16, zc20, zc40, zput_ii, a6', k1', Bool.true_eq_false, Bool.false_eq_true, true_implies, false_implies, not_true_eq_false, not_false_eq_true, true_and, and_true, eq_self, implies_true, z_toL, z_toN, List.cons_append, List.nil_append]
      exact ⟨by omega, fun q => fin _ (w0 q).symm, fun q => fin _ (w1 q).symm⟩
    rw [nX5_map, bX5_map_0]
    simp only [f1a, f1b, f1c, f2a, f2b, f2c, f3a, f3b, f3c, Bool.true_eq_false, Bool.false_eq_true, true_implies, false_implies, not_true_eq_false, not_false_eq_true, true_and, and_true, eq_self, implies_true, z_toL, z_toN, List.cons_append, List.nil_append]
    simp (disch := omega) only [nI_add, pk_mul, pk_sub, nI_clamp, vp_inE, a1, a4, h0, zt_0, zput_ii, k6, Bool.true_eq_false, Bool.false_eq_true, true_implies, false_implies, not_true_eq_false, not_false_eq_true, true_and, and_true, eq_self, implies_true, z_toL, z_toN, List.cons_append, List.nil_append]
    refine ⟨by omega, by omega, fun q => ?_, fun q => ?_⟩
    · exact main (f + 256) f (Or.inr (Or.inl (by omega))) (by omega) (zt_f0 hf) (fun _ => rfl) (fun z => absurd q z)
    · exact main (f + 768) (f + 256) (Or.inr (Or.inr (by omega))) (by omega) (zt_f1 hf) (fun z => absurd z q) (fun _ => rfl)
  · have a8 : ¬ zt (zlast (sHi S (s * 16 + p))) = -nI 1 := by rw [zt_none a5]; exact h0
    rw [nX5_map, bX5_map_0]
    simp only [f1a, f1b, f1c, f2a, f2b, f2c, f3a, f3b, f3c, Bool.true_eq_false, Bool.false_eq_true, true_implies, false_implies, not_true_eq_false, not_false_eq_true, true_and, and_true, eq_self, implies_true, z_toL, z_toN, List.cons_append, List.nil_append]
    simp (disch := omega) only [nI_add, pk_mul, pk_sub, nI_clamp, vp_inE, a1, a4, a8, Bool.true_eq_false, Bool.false_eq_true, true_implies, false_implies, not_true_eq_false, not_false_eq_true, true_and, and_true, eq_self, implies_true, z_toL, z_toN, List.cons_append, List.nil_append]
    refine ⟨by omega, by omega, ?_⟩
    rw [nX6_map, bX6_map_0]
    simp only [f1a, f1b, f1c, f2a, f2b, f2c, f3a, f3b, f3c, Bool.true_eq_false, Bool.false_eq_true, true_implies, false_implies, not_true_eq_false, not_false_eq_true, true_and, and_true, eq_self, implies_true, z_toL, z_toN, List.cons_append, List.nil_append]
    simp (disch := omega) only [nI_add, pk_mul, nI_clamp, vp_inE, zc3, zc4, zc5, zc16, zc20, zc40, nI_eqE, a6, h0, Bool.true_eq_false, Bool.false_eq_true, true_implies, false_implies, not_true_eq_false, not_false_eq_true, true_and, and_true, eq_self, implies_true, z_toL, z_toN, List.cons_append, List.nil_append]
    exact ⟨by omega, _, rfl, rfl, h'⟩
theorem J_wake {n : Nat} {σ : zV} (h : Rel n σ) (v1 : Int32) : zJ yX5_wake yX6_wake [.int v1] σ (n + 1) := by
  have h' := Rel_wk h (show n ≤ n + 1 by omega)
  obtain ⟨S, hX, hM, hI⟩ := h
  have hnc1 := hI.1.1.1
  have hnc := hI.1.1.2
  have k5 : σ 0 5 = nI (sNc S) := hX.1
  have k0 : σ 28 0 = nI (sNc S) := hM.1
  have k6 : σ 0 6 = sSc S 1 := hX.2.1.1
  have k1 : σ 28 1 = sSc S 1 := hM.2.1.1
  have hsub : nI (sNc S) - nI 1 = nI (sNc S - 1) := pk_sub (by omega)
  unfold zJ
  rcases ziy v1 (sNc S) (by omega) (by omega) with g | ⟨g1, g2, g3⟩ | ⟨c, hc, rfl, f1a, f1b, f1c⟩
  · rw [nX5_wake, bX5_wake_0]
    simp only [k5, g, Bool.true_eq_false, Bool.false_eq_true, true_implies, false_implies, not_true_eq_false, not_false_eq_true, true_and, and_true, eq_self, implies_true, z_toL, z_toN, List.cons_append, List.nil_append]
    rw [nX6_wake, bX6_wake_0]
    simp only [k0, hsub, g, Bool.true_eq_false, Bool.false_eq_true, true_implies, false_implies, not_true_eq_false, not_false_eq_true, true_and, and_true, eq_self, implies_true, z_toL, z_toN, List.cons_append, List.nil_append]
    exact ⟨_, rfl, rfl, h'⟩
  · rw [nX5_wake, bX5_wake_0]
    simp only [k5, g1, g2, Bool.true_eq_false, Bool.false_eq_true, true_implies, false_implies, not_true_eq_false, not_false_eq_true, true_and, and_true, eq_self, implies_true, z_toL, z_toN, List.cons_append, List.nil_append]
    rw [nX6_wake, bX6_wake_0]
    simp only [k0, hsub, g1, g3, Bool.true_eq_false, Bool.false_eq_true, true_implies, false_implies, not_true_eq_false, not_false_eq_true, true_and, and_true, eq_self, implies_true, z_toL, z_toN, List.cons_append, List.nil_append]
    exact ⟨_, rfl, rfl, h'⟩
  have hcut := True.intro
  have k8 : σ 8 c = zb (sAw S c) := (hX.2.2.2.2.1 c (by omega)).2
  have k35 : σ 35 c = zb (sAw S c) := (hM.2.2.2.2.1 c (by omega)).2
  rw [nX5_wake, bX5_wake_0]
  simp only [f1a, f1b, f1c, k5, Bool.true_eq_false, Bool.false_eq_true, true_implies, false_implies, not_true_eq_false, not_false_eq_true, true_and, and_true, eq_self, implies_true, z_toL, z_toN, List.cons_append, List.nil_append]
  simp (disch := omega) only [nI_clamp, vp_inE, k6, k8, z_vn1, zb_0, Bool.true_eq_false, Bool.false_eq_true, true_implies, false_implies, not_true_eq_false, not_false_eq_true, true_and, and_true, eq_self, implies_true, z_toL, z_toN, List.cons_append, List.nil_append]
  have hI1 : zI (n + 1) (sAwk c true (sInc 1 S)) := zI_time hI
  refine ⟨by omega, fun q => ⟨by omega, ?_⟩, fun q => ?_⟩
  · have mX : RX (sAwk c true (sInc 1 S)) (zput (zput σ 0 6 (sSc S 1 + nI 1)) 8 c (nI 1)) := RX_awk (a := true) (S := sInc 1 S) (RX_set hX 1 (by omega) (by omega) _)
    refine X_cau (d := 3) mX hI1 (by omega) (fun σ1 m1 o1 => ?_)
    have xo : zXo σ σ1 := zXo_tr (zXo_tr (zXo_put (by omega)) (zXo_put (by omega))) o1
    have hM1 := RM_xo hM xo
    have k1' : σ1 28 1 = sSc S 1 := hM1.2.1.1
    have k0' : σ1 28 0 = nI (sNc S) := hM1.1
    have k35' : σ1 35 c = zb (sAw S c) := (hM1.2.2.2.2.1 c (by omega)).2
    simp only [z_toL, List.cons_append, List.nil_append]
    rw [bX5_wake_51, nX6_wake, bX6_wake_0]
    simp only [f1a, f1b, f1c, k0', hsub, Bool.true_eq_false, Bool.false_eq_true, true_implies, false_implies, not_true_eq_false, not_false_eq_true, true_and, and_true, eq_self, implies_true, z_toL, z_toN, List.cons_append, List.nil_append]
    simp (disch := omega) only [nI_clamp, vp_inE, k1', k35', z_vn1, q, zb_0, Bool.true_eq_false, Bool.false_eq_true, true_implies, false_implies, not_true_eq_false, not_false_eq_true, true_and, and_true, eq_self, implies_true, z_toL, z_toN, List.cons_append, List.nil_append]
    refine ⟨by omega, by omega, ?_⟩
    have mM : RM (sAwk c true (sInc 1 S)) (zput (zput σ1 28 1 (sSc S 1 + nI 1)) 35 c (nI 1)) := RM_awk (a := true) (S := sInc 1 S) (RM_set1 hM1 _)
    refine M_cau (d := 4) mM hI1 (by omega) (fun σ2 m2 o2 => ?_)
    simp only [z_toL, List.cons_append, List.nil_append]
    rw [bX6_wake_45]
    exact ⟨_, rfl, rfl, _, RX_mo m1 (zMo_tr (zMo_tr (zMo_put (by omega)) (zMo_put (by omega))) o2), m2, zI_cau hI1 (by omega)⟩
  · rw [nX6_wake, bX6_wake_0]
    simp only [f1a, f1b, f1c, k0, hsub, Bool.true_eq_false, Bool.false_eq_true, true_implies, false_implies, not_true_eq_false, not_false_eq_true, true_and, and_true, eq_self, implies_true, z_toL, z_toN, List.cons_append, List.nil_append]
    simp (disch := omega) only [nI_clamp, vp_inE, k35, q, zb_0, Bool.true_eq_false, Bool.false_eq_true, true_implies, false_implies, not_true_eq_false, not_false_eq_true, true_and, and_true, eq_self, implies_true, z_toL, z_toN, List.cons_append, List.nil_append]
    exact ⟨by omega, _, rfl, rfl, h'⟩

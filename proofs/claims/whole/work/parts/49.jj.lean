/-! both sides: cores -/
theorem J_cores {n : Nat} {σ : zV} (h : Rel n σ) (v1 : Int32) : zJ yX5_cores yX6_cores [.int v1] σ n := by
  have h' := h
  obtain ⟨S, hX, hM, hI⟩ := h
  have hnc1 := hI.1.1.1
  have hnc := hI.1.1.2
  have k5 : σ 0 5 = nI (sNc S) := hX.1
  have k0 : σ 28 0 = nI (sNc S) := hM.1
  have k6 : σ 0 6 = sSc S 1 := hX.2.1.1
  have k1 : σ 28 1 = sSc S 1 := hM.2.1.1
  have hsub : nI (sNc S) - nI 1 = nI (sNc S - 1) := pk_sub (by omega)
  unfold zJ
  have out : ∀ k, k = 5 → (v1 < nI 0 ∨ (¬ v1 < nI 0 ∧ nI k ≤ v1 ∧ nI (k - 1) < v1)) → (v1 < nI 1 ∨ (¬ v1 < nI 1 ∧ nI 4 < v1)) ∧ (v1 < nI 1 ∨ (¬ v1 < nI 1 ∧ ¬ v1 ≤ nI 4)) := by
    intro k hk g
    have p := zoutm (k := 1) (n := k) g (by omega) (by omega)
    subst hk
    refine ⟨p, ?_⟩
    rcases p with p | ⟨p1, p2⟩
    · exact Or.inl p
    · refine Or.inr ⟨p1, fun q => ?_⟩
      rw [Int32.le_iff_toInt_le] at q
      have p3 : nI 4 < v1 := p2
      rw [Int32.lt_iff_toInt_lt] at p3
      omega
  have mm : (v1 < nI 1 ∨ (¬ v1 < nI 1 ∧ nI 4 < v1)) → zCall (zUn true) 8 yX6_cores [.ref 28, .int v1] σ (fun v' σ2 => ∃ r, some (Value.int (-nI 102)) = some (Value.int r) ∧ v' = some (Value.int r) ∧ Rel n σ2) := by
    intro q
    rw [nX6_cores, bX6_cores_0]
    rcases q with q | ⟨q1, q2⟩
    · exact ⟨fun _ => ⟨_, rfl, rfl, h'⟩, fun z => absurd q z⟩
    · exact ⟨fun z => absurd z q1, fun _ => ⟨fun _ => ⟨_, rfl, rfl, h'⟩, fun z => absurd q2 z⟩⟩
  rw [nX5_cores, bX5_cores_0]
  rcases zix v1 5 (by omega) (by omega) with g | g | ⟨m, hm, rfl⟩
  · obtain ⟨o1, o2⟩ := out 5 rfl (Or.inl g)
    rcases o2 with o2 | ⟨o2, o3⟩
    · exact ⟨fun _ => mm o1, fun q => absurd o2 q⟩
    · exact ⟨fun q => absurd q o2, fun _ => ⟨fun q => absurd q o3, fun _ => mm o1⟩⟩
  · obtain ⟨o1, o2⟩ := out 5 rfl (Or.inr g)
    rcases o2 with o2 | ⟨o2, o3⟩
    · exact ⟨fun _ => mm o1, fun q => absurd o2 q⟩
    · exact ⟨fun q => absurd q o2, fun _ => ⟨fun q => absurd q o3, fun _ => mm o1⟩⟩
  · refine ⟨fun q => mm (Or.inl q), fun q => ⟨fun _ => ?_, fun q2 => absurd ?_ q2⟩⟩
    · refine X_again (d := 4) (fun σ1 m1 o1 => ?_)
      simp only [z_toN, List.nil_append]
      rw [bX5_cores_23, k5]
      have hM1 := RM_xo hM o1
      have k0' : σ1 28 0 = nI (sNc S) := hM1.1
      have n4 : ¬ nI 4 < nI m := by rw [nI_ltE (by omega) (by omega)]; omega
      have m1' : 1 ≤ m := by rw [nI_ltE (by omega) (by omega)] at q; omega
      rw [nX6_cores, bX6_cores_0]
      refine ⟨fun z => absurd z q, fun _ => ⟨fun z => absurd z n4, fun _ => M_again (d := 6) (fun σ2 m2 o2 => ?_)⟩⟩
      simp only [z_toN, List.nil_append]
      rw [bX6_cores_22, k0']
      exact ⟨_, rfl, rfl, _, RX_mo m1 o2, m2, zI_new m1' (by omega)⟩
    · rw [nI_leE (by omega) (by omega)]; omega

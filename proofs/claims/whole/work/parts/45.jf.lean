/-! both sides: danger -/
theorem M_danger {d : Nat} {Q : zQ} {S : zSt} {σ : zV} {s p n : Nat} (h : RM S σ) (hI : zI n S) (hs : s < 3) (hp : p < 16) (hQ : Q (some (.int (zb (zdgs S s p)))) σ) : eX6_danger (d + 2) Q 16 [.ref 28, .int (nI s), .int (nI p), .int (nI 0), .int (nI 0), .null] [] σ := by
  have hnc := hI.1.1.2
  have k0 : σ 28 0 = nI (sNc S) := h.1
  have yes : ∀ m i (v : Value), v.category = 1 → m + i = sNc S → zdgs S s p = true → eX6_danger (d + 2) Q 16 [.ref 28, .int (nI s), .int (nI p), .int (nI 1), .int (nI i), v] [] σ := by
    intro m
    induction m with
    | zero =>
      intro i v hv hi e
      rw [bX6_danger_16 hv, k0, show i = sNc S by omega]
      rw [e] at hQ
      exact ⟨fun _ => ⟨fun z => absurd z (by decide), fun _ => hQ⟩, fun q => absurd (Int32.le_refl _) q⟩
    | succ m ih =>
      intro i v hv hi e
      have nle : ¬ nI (sNc S) ≤ nI i := by rw [nI_leE (by omega) (by omega)]; omega
      rw [bX6_danger_16 hv, k0]
      refine ⟨fun q => absurd q nle, fun _ => M_find (d := d + 1) (c := i) h.2.2.2.2.2.2.1 hI.1.2.2.2.2.1 (by omega) hs hp ?_⟩
      simp only [z_toL, List.cons_append, List.nil_append]
      rw [bX6_danger_33 hv, nI_add]
      exact ⟨fun _ => ih (i + 1) _ rfl (by omega) e, fun z => absurd z (by decide)⟩
  have no : ∀ m i (v : Value), v.category = 1 → m + i = sNc S → (∀ j, j < i → zdg S s p j = false) → eX6_danger (d + 2) Q 16 [.ref 28, .int (nI s), .int (nI p), .int (nI 0), .int (nI i), v] [] σ := by
    intro m
    induction m with
    | zero =>
      intro i v hv hi hj
      rw [bX6_danger_16 hv, k0, show i = sNc S by omega]
      have e : zdgs S s p = false := by unfold zdgs; rw [zfst_none (fun j hjl => hj j (by omega))]; rfl
      rw [e] at hQ
      exact ⟨fun _ => ⟨fun _ => hQ, fun z => absurd rfl z⟩, fun q => absurd (Int32.le_refl _) q⟩
    | succ m ih =>
      intro i v hv hi hj
      have nx : ∀ v', v'.category = 1 → zdg S s p i = false → eX6_danger (d + 2) Q 16 [.ref 28, .int (nI s), .int (nI p), .int (nI 0), .int (nI (i + 1)), v'] [] σ := fun v' hv' q => ih (i + 1) v' hv' (by omega) (fun j hji => by
        rcases Nat.lt_or_ge j i with z | z
        · exact hj j z
        · rw [show j = i by omega]; exact q)
      have ys : ∀ v', v'.category = 1 → zdg S s p i = true → eX6_danger (d + 2) Q 16 [.ref 28, .int (nI s), .int (nI p), .int (nI 1), .int (nI (i + 1)), v'] [] σ := fun v' hv' q => by
        have e : zdgs S s p = true := by unfold zdgs; rw [zfst_some hj (by omega) q]; rfl
        exact yes m (i + 1) v' hv' (by omega) e
      obtain ⟨x7, x8⟩ := h.2.2.2.2.1 i (by omega)
      have hsp := hI.1.2.2.2.1 i (by omega)
      have nle : ¬ nI (sNc S) ≤ nI i := by rw [nI_leE (by omega) (by omega)]; omega
      rw [bX6_danger_16 hv, k0]
      refine ⟨fun q => absurd q nle, fun _ => M_find (d := d + 1) (c := i) h.2.2.2.2.2.2.1 hI.1.2.2.2.2.1 (by omega) hs hp ?_⟩
      simp only [z_toL, List.cons_append, List.nil_append]
      cases hz : zfn (sNo S i) s p with
      | none =>
        rw [bX6_danger_33 hv, nI_add]
        exact ⟨fun q => absurd rfl q, fun _ => ⟨fun _ => nx _ rfl (by unfold zdg; rw [hz]), fun q => absurd rfl q⟩⟩
      | some k =>
        have hk := zfn_lt hz
        have g0 := (zno hI (show i < 4 by omega) hk).1
        have ec : zcode (some k) = nI k := rfl
        have nk : (nI k = -nI 1) = False := nI_m (by omega) (by omega) (by omega)
        have ed : zdg S s p i = (zstl S (zg (sNo S i) k zn0) && (sAw S i && decide (sSp S i = s))) := by unfold zdg; rw [hz]
        rw [ec, bX6_danger_33 hv]
        simp only [nk, false_implies, true_and, not_false_eq_true, true_implies]
        refine ⟨fun q => absurd trivial q, M_stale (d := d + 1) h hI (by omega) hk ?_⟩
        simp only [z_toL, List.cons_append, List.nil_append]
        rw [bX6_danger_53]
        simp (disch := omega) only [nI_clamp, vp_inE, x7, x8, zb_0, nI_add, nI_eqE]
        refine ⟨fun q3 => nx _ rfl (by rw [ed, q3]; simp), fun q3 => ⟨by omega, fun q => nx _ rfl (by rw [ed, q]; simp), fun q => ⟨by omega, fun q2 => nx _ rfl (by rw [ed, decide_eq_false q2]; simp), fun q2 => ys _ rfl ?_⟩⟩⟩
        have qa : sAw S i = true := by cases ea : sAw S i; exact absurd ea q; rfl
        have qs : zstl S (zg (sNo S i) k zn0) = true := by cases ea : zstl S (zg (sNo S i) k zn0); exact absurd ea q3; rfl
        rw [ed, qa, qs, decide_eq_true q2]
        rfl
  exact no _ 0 .null rfl rfl (fun j hj => absurd hj (by omega))
theorem J_danger {n : Nat} {σ : zV} (h : Rel n σ) (v1 v2 : Int32) : zJ yX5_danger yX6_danger [.int v1, .int v2] σ n := by
  have h' := h
  obtain ⟨S, hX, hM, hI⟩ := h
  have hnc1 := hI.1.1.1
  have hnc := hI.1.1.2
  have k5 : σ 0 5 = nI (sNc S) := hX.1
  have k0 : σ 28 0 = nI (sNc S) := hM.1
  have k6 : σ 0 6 = sSc S 1 := hX.2.1.1
  have k1 : σ 28 1 = sSc S 1 := hM.2.1.1
  have hsub : nI (sNc S) - nI 1 = nI (sNc S - 1) := pk_sub (by omega)
  unfold zJ
  rcases ziy v1 3 (by omega) (by omega) with g | ⟨g1, g2, g3⟩ | ⟨s, hs, rfl, f1a, f1b, f1c⟩
  · rw [nX5_danger, bX5_danger_0]
    simp only [k5, g, Nat.one_ne_zero, Bool.true_eq_false, Bool.false_eq_true, true_implies, false_implies, not_true_eq_false, not_false_eq_true, true_and, and_true, eq_self, implies_true, z_toL, z_toN, List.cons_append, List.nil_append]
    rw [nX6_danger, bX6_danger_0]
    simp only [k0, hsub, g, Nat.one_ne_zero, Bool.true_eq_false, Bool.false_eq_true, true_implies, false_implies, not_true_eq_false, not_false_eq_true, true_and, and_true, eq_self, implies_true, z_toL, z_toN, List.cons_append, List.nil_append]
    exact ⟨_, rfl, rfl, h'⟩
  · rw [nX5_danger, bX5_danger_0]
    simp only [k5, g1, g2, Nat.one_ne_zero, Bool.true_eq_false, Bool.false_eq_true, true_implies, false_implies, not_true_eq_false, not_false_eq_true, true_and, and_true, eq_self, implies_true, z_toL, z_toN, List.cons_append, List.nil_append]
    rw [nX6_danger, bX6_danger_0]
    simp only [k0, hsub, g1, g3, Nat.one_ne_zero, Bool.true_eq_false, Bool.false_eq_true, true_implies, false_implies, not_true_eq_false, not_false_eq_true, true_and, and_true, eq_self, implies_true, z_toL, z_toN, List.cons_append, List.nil_append]
    exact ⟨_, rfl, rfl, h'⟩
  rcases ziy v2 16 (by omega) (by omega) with g | ⟨g1, g2, g3⟩ | ⟨p, hp, rfl, f2a, f2b, f2c⟩
  · rw [nX5_danger, bX5_danger_0]
    simp only [f1a, f1b, f1c, k5, g, Nat.one_ne_zero, Bool.true_eq_false, Bool.false_eq_true, true_implies, false_implies, not_true_eq_false, not_false_eq_true, true_and, and_true, eq_self, implies_true, z_toL, z_toN, List.cons_append, List.nil_append]
    rw [nX6_danger, bX6_danger_0]
    simp only [f1a, f1b, f1c, k0, hsub, g, Nat.one_ne_zero, Bool.true_eq_false, Bool.false_eq_true, true_implies, false_implies, not_true_eq_false, not_false_eq_true, true_and, and_true, eq_self, implies_true, z_toL, z_toN, List.cons_append, List.nil_append]
    exact ⟨_, rfl, rfl, h'⟩
  · rw [nX5_danger, bX5_danger_0]
    simp only [f1a, f1b, f1c, k5, g1, g2, Nat.one_ne_zero, Bool.true_eq_false, Bool.false_eq_true, true_implies, false_implies, not_true_eq_false, not_false_eq_true, true_and, and_true, eq_self, implies_true, z_toL, z_toN, List.cons_append, List.nil_append]
    rw [nX6_danger, bX6_danger_0]
    simp only [f1a, f1b, f1c, k0, hsub, g1, g3, Nat.one_ne_zero, Bool.true_eq_false, Bool.false_eq_true, true_implies, false_implies, not_true_eq_false, not_false_eq_true, true_and, and_true, eq_self, implies_true, z_toL, z_toN, List.cons_append, List.nil_append]
    exact ⟨_, rfl, rfl, h'⟩
  have hcut := True.intro
  rw [nX5_danger, bX5_danger_0]
  simp only [f1a, f1b, f1c, f2a, f2b, f2c, Nat.one_ne_zero, Bool.true_eq_false, Bool.false_eq_true, true_implies, false_implies, not_true_eq_false, not_false_eq_true, true_and, and_true, eq_self, implies_true, z_toL, z_toN, List.cons_append, List.nil_append]
  refine X_danger (d := 3) hX hI hs hp ?_
  rw [nX6_danger, bX6_danger_0]
  simp only [f1a, f1b, f1c, f2a, f2b, f2c, Nat.one_ne_zero, Bool.true_eq_false, Bool.false_eq_true, true_implies, false_implies, not_true_eq_false, not_false_eq_true, true_and, and_true, eq_self, implies_true, z_toL, z_toN, List.cons_append, List.nil_append]
  exact M_danger (d := 5) hM hI hs hp ⟨_, rfl, rfl, h'⟩

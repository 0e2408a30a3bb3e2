/-! both sides: wasSo, danger -/
theorem J_wasSo {n : Nat} {σ : zV} (h : Rel n σ) (v1 v2 : Int32) : zJ yX5_wasSo yX6_wasSo [.int v1, .int v2] σ n := by
  have h' := h
  obtain ⟨S, hX, hM, hI⟩ := h
  have hnc1 := hI.1.1.1
  have hnc := hI.1.1.2
  have k5 : σ 0 5 = nI (sNc S) := hX.1
  have k0 : σ 28 0 = nI (sNc S) := hM.1
  have k6 : σ 0 6 = sSc S 1 := hX.2.1.1
  have k1 : σ 28 1 = sSc S 1 := hM.2.1.1
  have hsub : nI (sNc S) - nI 1 = nI (sNc S - 1) := pk_sub (by omega)
  unfold zJ
  rcases ziy v1 (sNc S) (by omega) (by omega) with g | ⟨g1, g2, g3⟩ | ⟨c, hc, rfl, f1a, f1b, f1c⟩
  · rw [nX5_wasSo, bX5_wasSo_0]
    simp only [k5, g, Nat.one_ne_zero, Bool.true_eq_false, Bool.false_eq_true, true_implies, false_implies, not_true_eq_false, not_false_eq_true, true_and, and_true, eq_self, implies_true, z_toL, z_toN, List.cons_append, List.nil_append]
    rw [nX6_wasSo, bX6_wasSo_0]
    simp only [k0, hsub, g, Nat.one_ne_zero, Bool.true_eq_false, Bool.false_eq_true, true_implies, false_implies, not_true_eq_false, not_false_eq_true, true_and, and_true, eq_self, implies_true, z_toL, z_toN, List.cons_append, List.nil_append]
    exact ⟨_, rfl, rfl, h'⟩
  · rw [nX5_wasSo, bX5_wasSo_0]
    simp only [k5, g1, g2, Nat.one_ne_zero, Bool.true_eq_false, Bool.false_eq_true, true_implies, false_implies, not_true_eq_false, not_false_eq_true, true_and, and_true, eq_self, implies_true, z_toL, z_toN, List.cons_append, List.nil_append]
    rw [nX6_wasSo, bX6_wasSo_0]
    simp only [k0, hsub, g1, g3, Nat.one_ne_zero, Bool.true_eq_false, Bool.false_eq_true, true_implies, false_implies, not_true_eq_false, not_false_eq_true, true_and, and_true, eq_self, implies_true, z_toL, z_toN, List.cons_append, List.nil_append]
    exact ⟨_, rfl, rfl, h'⟩
  have hcut := True.intro
  have x12 := (hX.2.2.2.2.2.2.1 c (by omega)).1
  have m36 := (hM.2.2.2.2.2.2.1 c (by omega)).1
  have hlen := (hI.1.2.2.2.2.1 c (by omega)).1
  have hin4 : vp_in (nI c) 4 := by rw [vp_inE (by omega)]; omega
  have hcl : (nI c).toNatClampNeg = c := nI_clamp (by omega)
  have mm : (v2 < nI 0 ∨ (¬ v2 < nI 0 ∧ nI (sNo S c).length - nI 1 < v2)) → zCall (zUn true) 8 yX6_wasSo [.ref 28, .int (nI c), .int v2] σ (fun v' σ2 => ∃ r, some (Value.int (-nI 101)) = some (Value.int r) ∧ v' = some (Value.int r) ∧ Rel n σ2) := by
    intro q
    rw [nX6_wasSo, bX6_wasSo_0]
    simp only [f1a, f1b, f1c, k0, hsub, hin4, hcl, m36, Nat.one_ne_zero, Bool.true_eq_false, Bool.false_eq_true, true_implies, false_implies, not_true_eq_false, not_false_eq_true, true_and, and_true, eq_self, implies_true, z_toL, z_toN, List.cons_append, List.nil_append]
    rcases q with q | ⟨q1, q2⟩
    · exact ⟨fun _ => ⟨_, rfl, rfl, h'⟩, fun z => absurd q z⟩
    · exact ⟨fun z => absurd z q1, fun _ => ⟨fun _ => ⟨_, rfl, rfl, h'⟩, fun z => absurd q2 z⟩⟩
  rw [nX5_wasSo, bX5_wasSo_0]
  simp only [f1a, f1b, f1c, k5, hin4, hcl, x12, Nat.one_ne_zero, Bool.true_eq_false, Bool.false_eq_true, true_implies, false_implies, not_true_eq_false, not_false_eq_true, true_and, and_true, eq_self, implies_true, z_toL, z_toN, List.cons_append, List.nil_append]
  refine ⟨fun q => mm (Or.inl q), fun q0 => ⟨fun q => mm (Or.inr ⟨q0, ?_⟩), fun q1 => ?_⟩⟩
  · rw [Int32.lt_iff_toInt_lt]
    rw [Int32.le_iff_toInt_le, nI_toInt (by omega)] at q
    rw [Int32.lt_iff_toInt_lt, nI_toInt (by omega)] at q0
    by_cases e : (sNo S c).length = 0
    · rw [e]
      have : (nI 0 - nI 1).toInt = -1 := by decide
      rw [this]; omega
    · rw [pk_sub (by omega), nI_toInt (by omega)]; omega
  rcases zix v2 (sNo S c).length (by rcases Nat.eq_zero_or_pos (sNo S c).length with e | e; exfalso; rw [e] at q1; rw [Int32.lt_iff_toInt_lt, nI_toInt (by omega)] at q0; rw [Int32.le_iff_toInt_le, nI_toInt (by omega)] at q1; omega; exact e) (by omega) with g | g | ⟨k, hk, rfl⟩
  · exact absurd g q0
  · exact absurd g.2.1 q1
  obtain ⟨g0, g1, g2, g3, g4⟩ := zno hI (show c < 4 by omega) hk
  obtain ⟨x1, x2, x3, x4⟩ := (hX.2.2.2.2.2.2.1 c (by omega)).2 k hk
  obtain ⟨m1, m2, m3, m4⟩ := (hM.2.2.2.2.2.2.1 c (by omega)).2 k hk
  have e1 : nI c * nI 4 + nI k = nI (c * 4 + k) := by rw [pk_mul, nI_add]
  have e0 : nI 20 * nI c + nI 5 * nI k = nI (c * 20 + k * 5) := by rw [pk_mul, pk_mul, nI_add, zc20, zc5]
  have in1 : vp_in (nI (c * 4 + k)) 16 := by rw [vp_inE (by omega)]; omega
  have cl1 : (nI (c * 4 + k)).toNatClampNeg = c * 4 + k := nI_clamp (by omega)
  have n6 : ¬ nI (sNo S c).length - nI 1 < nI k := by rw [pk_sub (by omega), nI_ltE (by omega) (by omega)]; omega
  simp only [e1, in1, cl1, x1, x2, x3, x4, Nat.one_ne_zero, Bool.true_eq_false, Bool.false_eq_true, true_implies, false_implies, not_true_eq_false, not_false_eq_true, true_and, and_true, eq_self, implies_true, z_toL, z_toN, List.cons_append, List.nil_append]
  refine X_held (d := 4) hX hI g1 g2 g3 ?_
  simp only [z_toL, List.cons_append, List.nil_append]
  rw [bX5_wasSo_61]
  have mo : zCall (zUn true) 8 yX6_wasSo [.ref 28, .int (nI c), .int (nI k)] σ (fun v' σ2 => ∃ r, some (Value.int (zb (zso (sHi S ((zg (sNo S c) k zn0).1 * 16 + (zg (sNo S c) k zn0).2.1)) (zg (sNo S c) k zn0).2.2.1 (zg (sNo S c) k zn0).2.2.2))) = some (Value.int r) ∧ v' = some (Value.int r) ∧ Rel n σ2) := by
    have in2 : ∀ i, i < 5 → vp_in (nI (c * 20 + k * 5 + i)) 80 := fun i hi => by rw [vp_inE (by omega)]; omega
    have cl2 : ∀ i, i < 5 → (nI (c * 20 + k * 5 + i)).toNatClampNeg = c * 20 + k * 5 + i := fun i hi => nI_clamp (by omega)
    have e2 : nI 16 * nI (zg (sNo S c) k zn0).1 + nI (zg (sNo S c) k zn0).2.1 = nI ((zg (sNo S c) k zn0).1 * 16 + (zg (sNo S c) k zn0).2.1) := by rw [pk_mul, nI_add, zc16]
    have cl0 : (nI (c * 20 + k * 5)).toNatClampNeg = c * 20 + k * 5 := cl2 0 (by omega)
    rw [nX6_wasSo, bX6_wasSo_0]
    simp only [f1a, f1b, f1c, k0, hsub, hin4, hcl, m36, q0, n6, e0, Nat.one_ne_zero, Bool.true_eq_false, Bool.false_eq_true, true_implies, false_implies, not_true_eq_false, not_false_eq_true, true_and, and_true, eq_self, implies_true, z_toL, z_toN, List.cons_append, List.nil_append]
    rw [nI_add, cl2 1 (by omega), cl0, m1, m2, e2]
    exact ⟨in2 0 (by omega), in2 1 (by omega), M_held (d := 4) hM hI (by omega) hk _ _ ⟨_, rfl, rfl, h'⟩⟩
  cases hz : zso (sHi S ((zg (sNo S c) k zn0).1 * 16 + (zg (sNo S c) k zn0).2.1)) (zg (sNo S c) k zn0).2.2.1 (zg (sNo S c) k zn0).2.2.2
  · rw [hz] at mo; exact ⟨fun _ => mo, fun z => absurd rfl z⟩
  · rw [hz] at mo; exact ⟨fun z => absurd z (by decide), fun _ => mo⟩
/-- core c may go by what is no more so -/
def zdg (S : zSt) (s p c : Nat) : Bool := match zfn (sNo S c) s p with
  | none => false
  | some k => zstl S (zg (sNo S c) k zn0) && (sAw S c && decide (sSp S c = s))
theorem zfn_lt {l : List zNote} {s p k : Nat} (h : zfn l s p = some k) : k < l.length := by
  rcases zfst_of (p := fun k => zmN (zg l k zn0) s p) (n := l.length) with ⟨e1, e2⟩ | ⟨k', e1, hk, _⟩
  · unfold zfn at h; rw [h] at e1; cases e1
  · unfold zfn at h; rw [h] at e1; cases e1; exact hk
def zdgs (S : zSt) (s p : Nat) : Bool := (zfst (zdg S s p) (sNc S)).isSome
theorem X_danger {d : Nat} {Q : zQ} {S : zSt} {σ : zV} {s p n : Nat} (h : RX S σ) (hI : zI n S) (hs : s < 3) (hp : p < 16) (hQ : Q (some (.int (zb (zdgs S s p)))) σ) : eX5_danger true (d + 4) Q 19 [.ref 0, .int (nI s), .int (nI p), .int (nI 0), .null] [] σ := by
  have hnc := hI.1.1.2
  have k5 : σ 0 5 = nI (sNc S) := h.1
  have loop : ∀ m i (v : Value), v.category = 1 → m + i = sNc S → (∀ j, j < i → zdg S s p j = false) → eX5_danger true (d + 4) Q 19 [.ref 0, .int (nI s), .int (nI p), .int (nI i), v] [] σ := by
    intro m
    induction m with
    | zero =>
      intro i v hv hi hj
      rw [bX5_danger_19 hv, k5]
      have e : zdgs S s p = false := by unfold zdgs; rw [zfst_none (fun j hjl => hj j (by omega))]; rfl
      rw [e] at hQ
      rw [show i = sNc S by omega]
      exact ⟨fun _ => hQ, fun q => absurd (Int32.le_refl _) q⟩
    | succ m ih =>
      intro i v hv hi hj
      have nx : ∀ v', v'.category = 1 → zdg S s p i = false → eX5_danger true (d + 4) Q 19 [.ref 0, .int (nI s), .int (nI p), .int (nI (i + 1)), v'] [] σ := fun v' hv' q => ih (i + 1) v' hv' (by omega) (fun j hji => by
        rcases Nat.lt_or_ge j i with z | z
        · exact hj j z
        · rw [show j = i by omega]; exact q)
      have yes : zdg S s p i = true → Q (some (.int (nI 1))) σ := fun q => by
        have e : zdgs S s p = true := by unfold zdgs; rw [zfst_some hj (by omega) q]; rfl
        rw [e] at hQ
        exact hQ
      obtain ⟨x7, x8⟩ := h.2.2.2.2.1 i (by omega)
      have hsp := hI.1.2.2.2.1 i (by omega)
      have nle : ¬ nI (sNc S) ≤ nI i := by rw [nI_leE (by omega) (by omega)]; omega
      rw [bX5_danger_19 hv, k5]
      refine ⟨fun q => absurd q nle, fun _ => X_find (d := d + 1) (c := i) h.2.2.2.2.2.2.1 hI.1.2.2.2.2.1 (by omega) hs hp ?_⟩
      simp only [z_toL, List.cons_append, List.nil_append]
      cases hz : zfn (sNo S i) s p with
      | none =>
        rw [bX5_danger_37 hv, nI_add]
        exact ⟨fun _ => nx _ rfl (by unfold zdg; rw [hz]), fun q => absurd rfl q⟩
      | some k =>
        have hk := zfn_lt hz
        have g0 := (zno hI (show i < 4 by omega) hk).1
        have ec : zcode (some k) = nI k := rfl
        have nk : (nI k = -nI 1) = False := nI_m (by omega) (by omega) (by omega)
        have ed : zdg S s p i = (zstl S (zg (sNo S i) k zn0) && (sAw S i && decide (sSp S i = s))) := by unfold zdg; rw [hz]
        rw [ec, bX5_danger_37 hv]
        simp (disch := omega) only [nk, false_implies, true_and, not_false_eq_true, true_implies, nI_clamp, vp_inE, x7, x8, zb_0, nI_add, nI_eqE]
        refine ⟨by omega, fun q => nx _ rfl (by rw [ed, q]; simp), fun q => ⟨by omega, fun q2 => nx _ rfl (by rw [ed, decide_eq_false q2]; simp), fun q2 => ?_⟩⟩
        refine X_stale (d := d) h hI (by omega) hk ?_
        simp only [z_toL, List.cons_append, List.nil_append]
        rw [bX5_danger_64, nI_add, zb_0]
        refine ⟨fun q3 => nx _ rfl (by rw [ed, q3]; simp), fun q3 => yes ?_⟩
        have qa : sAw S i = true := by cases ea : sAw S i; exact absurd ea q; rfl
        have qs : zstl S (zg (sNo S i) k zn0) = true := by cases ea : zstl S (zg (sNo S i) k zn0); exact absurd ea q3; rfl
        rw [ed, qa, qs, decide_eq_true q2]
        rfl
  exact loop _ 0 .null rfl rfl (fun j hj => absurd hj (by omega))

/-! both sides: stale notes, note -/
def zstl (S : zSt) (m : zNote) : Bool := decide (¬ m.2.2.1 = zlast (sHi S (m.1 * 16 + m.2.1)))
theorem zno {n c k : Nat} {S : zSt} (hI : zI n S) (hc : c < 4) (hk : k < (sNo S c).length) : (sNo S c).length ≤ 4 ∧ (zg (sNo S c) k zn0).1 < 3 ∧ (zg (sNo S c) k zn0).2.1 < 16 ∧ zvE (zg (sNo S c) k zn0).2.2.1 ∧ (zg (sNo S c) k zn0).2.2.1 ≠ 0 := by
  obtain ⟨h1, h2, _⟩ := hI.1.2.2.2.2.1 c hc
  exact ⟨h1, h2 _ (zg_mem hk)⟩
theorem X_stale {b : Bool} {d : Nat} {Q : zQ} {S : zSt} {σ : zV} {c k n : Nat} (h : RX S σ) (hI : zI n S) (hc : c < 4) (hk : k < (sNo S c).length) (hQ : Q (some (.int (zb (zstl S (zg (sNo S c) k zn0))))) σ) : zCall (zUn b) (d + 4) yX5_isStale [.ref 0, .int (nI c), .int (nI k)] σ Q := by
  obtain ⟨g0, g1, g2, g3, g4⟩ := zno hI hc hk
  obtain ⟨x1, x2, x3, x4⟩ := (h.2.2.2.2.2.2.1 c hc).2 k hk
  obtain ⟨a1, a2, a3, a4, a5⟩ := zX_now h hI g1 g2
  rw [sX5_isStale]
  simp (disch := omega) only [pk_mul, nI_add, nI_clamp, vp_inE, x1, x2, x3, a1, pk_sub, a4, zt_inj g3 a5]
  unfold zstl at hQ
  refine ⟨by omega, by omega, by omega, by omega, by omega, fun q => ?_, fun q => ?_⟩
  · rw [decide_eq_false (fun z => z q)] at hQ; exact hQ
  · rw [decide_eq_true q] at hQ; exact hQ
theorem M_stale {d : Nat} {Q : zQ} {S : zSt} {σ : zV} {c k n : Nat} (h : RM S σ) (hI : zI n S) (hc : c < 4) (hk : k < (sNo S c).length) (hQ : Q (some (.int (zb (zstl S (zg (sNo S c) k zn0))))) σ) : zCall (zUn true) (d + 1) yX6_isStale [.ref 28, .int (nI c), .int (nI k)] σ Q := by
  obtain ⟨g0, g1, g2, g3, g4⟩ := zno hI hc hk
  obtain ⟨x1, x2, x3, x4⟩ := (h.2.2.2.2.2.2.1 c hc).2 k hk
  have a6 := zM_now h g1 g2
  have l1 := zvE_lt g3
  have l2 : zlast (sHi S ((zg (sNo S c) k zn0).1 * 16 + (zg (sNo S c) k zn0).2.1)) < 1024 := by
    obtain ⟨h3, h4, h5⟩ := hI.1.2.2.1 ((zg (sNo S c) k zn0).1 * 16 + (zg (sNo S c) k zn0).2.1) (by omega)
    exact zvE_lt (h5 _ (zg_mem (x := zh0) (show (sHi S ((zg (sNo S c) k zn0).1 * 16 + (zg (sNo S c) k zn0).2.1)).length - 1 < _ by omega)))
  have e0 : nI 20 * nI c + nI 5 * nI k = nI (c * 20 + k * 5) := by rw [pk_mul, pk_mul, nI_add, zc20, zc5]
  rw [sX6_isStale]
  simp (disch := omega) only [e0, nI_add, nI_clamp, vp_inE, x1, x2, x3]
  have e1 : nI 16 * nI (zg (sNo S c) k zn0).1 = nI ((zg (sNo S c) k zn0).1 * 16) := by rw [pk_mul, zc16]
  simp (disch := omega) only [e1, nI_add, nI_clamp, vp_inE, a6, nI_eqE]
  unfold zstl at hQ
  refine ⟨by omega, by omega, by omega, by omega, fun q => ?_, fun q => ?_⟩
  · rw [decide_eq_false (fun z => z q)] at hQ; exact hQ
  · rw [decide_eq_true q] at hQ; exact hQ
/-- the frame of an entry -/
def zef (e : Nat) : Nat := if 768 ≤ e then e - 768 else e - 256
theorem zef_X {e : Nat} (h : zvE e) (h0 : e ≠ 0) {P : Int32 → Prop} (hP : P (nI (zef e))) : (zt e < nI 256 → P (zt e)) ∧ (¬ zt e < nI 256 → P (zt e - nI 256)) := by
  rcases zt_cases h with ⟨h1, h2⟩ | ⟨h1, h2, h3⟩ | ⟨h1, h2, h3⟩
  · exact absurd h1 h0
  · rw [h3, nI_ltE (by omega) (by omega)]
    rw [show zef e = e - 256 by unfold zef; rw [if_neg (by omega)]] at hP
    exact ⟨fun _ => hP, fun q => absurd (by omega) q⟩
  · rw [h3, nI_ltE (by omega) (by omega), pk_sub (by omega)]
    rw [show zef e = e - 512 - 256 by unfold zef; rw [if_pos h1]; omega] at hP
    exact ⟨fun q => absurd q (by omega), fun _ => hP⟩
theorem nI_and255 : ∀ a, a < 512 → nI a &&& nI 255 = nI (if a < 256 then a else a - 256) := by decide +kernel
theorem zef_M {e : Nat} (h : zvE e) (h0 : e ≠ 0) {P : Int32 → Prop} (hP : P (nI (zef e))) : (¬ nI e = nI 0 → ((nI e < nI 768 → P ((nI e - nI 256) &&& nI 255)) ∧ (¬ nI e < nI 768 → P (((nI e - nI 768) + nI 256) &&& nI 255)))) ∧ (nI e = nI 0 → P ((-nI 1) &&& nI 255)) := by
  have hl := zvE_lt h
  refine ⟨fun _ => ⟨fun q => ?_, fun q => ?_⟩, fun q => absurd ((nI_eqE (by omega) (by omega)).mp q) h0⟩
  · rw [nI_ltE (by omega) (by omega)] at q
    rcases h with h | h | h
    · exact absurd h h0
    · rw [pk_sub (by omega), nI_and255 _ (by omega), if_pos (by omega)]
      rw [show zef e = e - 256 by unfold zef; rw [if_neg (by omega)]] at hP
      exact hP
    · omega
  · rw [nI_ltE (by omega) (by omega)] at q
    rw [pk_sub (by omega), nI_add, nI_and255 _ (by omega), if_neg (by omega)]
    rw [show zef e = e - 768 + 256 - 256 by unfold zef; rw [if_pos (by omega)]; omega] at hP
    exact hP
theorem J_note {n : Nat} {σ : zV} (h : Rel n σ) (v1 v2 v3 : Int32) : zJ yX5_note yX6_note [.int v1, .int v2, .int v3] σ n := by
  have h' := h
  obtain ⟨S, hX, hM, hI⟩ := h
  have hnc1 := hI.1.1.1
  have hnc := hI.1.1.2
  have k5 : σ 0 5 = nI (sNc S) := hX.1
  have k0 : σ 28 0 = nI (sNc S) := hM.1
  have k6 : σ 0 6 = sSc S 1 := hX.2.1.1
  have k1 : σ 28 1 = sSc S 1 := hM.2.1.1
  have hsub : nI (sNc S) - nI 1 = nI (sNc S - 1) := pk_sub (by omega)
  unfold zJ
  rcases ziy v1 (sNc S) (by omega) (by omega) with g | ⟨g1, g2, g3⟩ | ⟨c, hc, rfl, f1a, f1b, f1c⟩
  · rw [nX5_note, bX5_note_0]
    simp only [k5, g, Nat.one_ne_zero, Bool.true_eq_false, Bool.false_eq_true, true_implies, false_implies, not_true_eq_false, not_false_eq_true, true_and, and_true, eq_self, implies_true, z_toL, z_toN, List.cons_append, List.nil_append]
    rw [nX6_note, bX6_note_0]
    simp only [k0, hsub, g, Nat.one_ne_zero, Bool.true_eq_false, Bool.false_eq_true, true_implies, false_implies, not_true_eq_false, not_false_eq_true, true_and, and_true, eq_self, implies_true, z_toL, z_toN, List.cons_append, List.nil_append]
    exact ⟨_, rfl, rfl, h'⟩
  · rw [nX5_note, bX5_note_0]
    simp only [k5, g1, g2, Nat.one_ne_zero, Bool.true_eq_false, Bool.false_eq_true, true_implies, false_implies, not_true_eq_false, not_false_eq_true, true_and, and_true, eq_self, implies_true, z_toL, z_toN, List.cons_append, List.nil_append]
    rw [nX6_note, bX6_note_0]
    simp only [k0, hsub, g1, g3, Nat.one_ne_zero, Bool.true_eq_false, Bool.false_eq_true, true_implies, false_implies, not_true_eq_false, not_false_eq_true, true_and, and_true, eq_self, implies_true, z_toL, z_toN, List.cons_append, List.nil_append]
    exact ⟨_, rfl, rfl, h'⟩
  have hcut := True.intro
  have x12 := (hX.2.2.2.2.2.2.1 c (by omega)).1
  have m36 := (hM.2.2.2.2.2.2.1 c (by omega)).1
  have hlen := (hI.1.2.2.2.2.1 c (by omega)).1
  have hin4 : vp_in (nI c) 4 := by rw [vp_inE (by omega)]; omega
  have hcl : (nI c).toNatClampNeg = c := nI_clamp (by omega)
  have mm : (v2 < nI 0 ∨ (¬ v2 < nI 0 ∧ nI (sNo S c).length - nI 1 < v2)) → zCall (zUn true) 8 yX6_note [.ref 28, .int (nI c), .int v2, .int v3] σ (fun v' σ2 => ∃ r, some (Value.int (-nI 101)) = some (Value.int r) ∧ v' = some (Value.int r) ∧ Rel n σ2) := by
    intro q
    rw [nX6_note, bX6_note_0]
    simp only [f1a, f1b, f1c, k0, hsub, hin4, hcl, m36, Nat.one_ne_zero, Bool.true_eq_false, Bool.false_eq_true, true_implies, false_implies, not_true_eq_false, not_false_eq_true, true_and, and_true, eq_self, implies_true, z_toL, z_toN, List.cons_append, List.nil_append]
    rcases q with q | ⟨q1, q2⟩
    · exact ⟨fun _ => ⟨_, rfl, rfl, h'⟩, fun z => absurd q z⟩
    · exact ⟨fun z => absurd z q1, fun _ => ⟨fun _ => ⟨_, rfl, rfl, h'⟩, fun z => absurd q2 z⟩⟩
  rw [nX5_note, bX5_note_0]
  simp only [f1a, f1b, f1c, k5, hin4, hcl, x12, Nat.one_ne_zero, Bool.true_eq_false, Bool.false_eq_true, true_implies, false_implies, not_true_eq_false, not_false_eq_true, true_and, and_true, eq_self, implies_true, z_toL, z_toN, List.cons_append, List.nil_append]
  refine ⟨fun q => mm (Or.inl q), fun q0 => ⟨fun q => mm (Or.inr ⟨q0, ?_⟩), fun q1 => ?_⟩⟩
  · rw [Int32.lt_iff_toInt_lt]
    rw [Int32.le_iff_toInt_le, nI_toInt (by omega)] at q
    rw [Int32.lt_iff_toInt_lt, nI_toInt (by omega)] at q0
    by_cases e : (sNo S c).length = 0
    · rw [e]
      have : (nI 0 - nI 1).toInt = -1 := by decide
      rw [this]; omega
    · rw [pk_sub (by omega), nI_toInt (by omega)]; omega
  rcases zix v2 (sNo S c).length (by rcases Nat.eq_zero_or_pos (sNo S c).length with e | e; exfalso; rw [e] at q1; rw [Int32.lt_iff_toInt_lt, nI_toInt (by omega)] at q0; rw [Int32.le_iff_toInt_le, nI_toInt (by omega)] at q1; omega; exact e) (by omega) with g | g | ⟨k, hk, rfl⟩
  · exact absurd g q0
  · exact absurd g.2.1 q1
  obtain ⟨g0, g1, g2, g3, g4⟩ := zno hI (show c < 4 by omega) hk
  obtain ⟨x1, x2, x3, x4⟩ := (hX.2.2.2.2.2.2.1 c (by omega)).2 k hk
  obtain ⟨m1, m2, m3, m4⟩ := (hM.2.2.2.2.2.2.1 c (by omega)).2 k hk
  have l1 := zvE_lt g3
  have e1 : nI c * nI 4 + nI k = nI (c * 4 + k) := by rw [pk_mul, nI_add]
  have e0 : nI 20 * nI c + nI 5 * nI k = nI (c * 20 + k * 5) := by rw [pk_mul, pk_mul, nI_add, zc20, zc5]
  have in1 : vp_in (nI (c * 4 + k)) 16 := by rw [vp_inE (by omega)]; omega
  have cl1 : (nI (c * 4 + k)).toNatClampNeg = c * 4 + k := nI_clamp (by omega)
  have in2 : ∀ i, i < 5 → vp_in (nI (c * 20 + k * 5 + i)) 80 := fun i hi => by rw [vp_inE (by omega)]; omega
  have cl2 : ∀ i, i < 5 → (nI (c * 20 + k * 5 + i)).toNatClampNeg = c * 20 + k * 5 + i := fun i hi => nI_clamp (by omega)
  have n0 : ¬ nI k < nI 0 := q0
  have n6 : ¬ nI (sNo S c).length - nI 1 < nI k := by rw [pk_sub (by omega), nI_ltE (by omega) (by omega)]; omega
  -- the model's answer
  have mo : ∀ x : Int32, (v3 = nI 0 → x = nI (zg (sNo S c) k zn0).1) → (v3 = nI 1 → x = nI (zg (sNo S c) k zn0).2.1) → (v3 = nI 2 → x = nI (zef (zg (sNo S c) k zn0).2.2.1)) → (v3 = nI 3 → x = if 768 ≤ (zg (sNo S c) k zn0).2.2.1 then nI 1 else nI 0) → (v3 = nI 4 → x = (zg (sNo S c) k zn0).2.2.2) → (v3 = nI 5 → x = zb (zstl S (zg (sNo S c) k zn0))) → (¬ v3 = nI 0 → ¬ v3 = nI 1 → ¬ v3 = nI 2 → ¬ v3 = nI 3 → ¬ v3 = nI 4 → ¬ v3 = nI 5 → x = -nI 102) → zCall (zUn true) 8 yX6_note [.ref 28, .int (nI c), .int (nI k), .int v3] σ (fun v' σ2 => ∃ r, some (Value.int x) = some (Value.int r) ∧ v' = some (Value.int r) ∧ Rel n σ2) := by
    intro x y0 y1 y2 y3 y4 y5 y6
    rw [nX6_note, bX6_note_0]
    simp only [f1a, f1b, f1c, k0, hsub, hin4, hcl, m36, n0, n6, e0, nI_add, Nat.one_ne_zero, Bool.true_eq_false, Bool.false_eq_true, true_implies, false_implies, not_true_eq_false, not_false_eq_true, true_and, and_true, eq_self, implies_true, z_toL, z_toN, List.cons_append, List.nil_append]
    have cl0 : (nI (c * 20 + k * 5)).toNatClampNeg = c * 20 + k * 5 := nI_clamp (by omega)
    rw [cl0, cl2 1 (by omega), cl2 2 (by omega), cl2 3 (by omega), m1, m2, m3, m4]
    refine ⟨fun q => ⟨in2 0 (by omega), _, rfl, by rw [y0 q], h'⟩, fun q => ⟨in2 1 (by omega), _, rfl, by rw [y1 q], h'⟩, fun q => ⟨in2 2 (by omega), zef_M (P := fun z => ∃ r, some (Value.int x) = some (Value.int r) ∧ some (Value.int z) = some (Value.int r) ∧ Rel n σ) g3 g4 ⟨_, rfl, by rw [y2 q], h'⟩⟩, fun q => ⟨in2 2 (by omega), fun q2 => ?_, fun q2 => ?_⟩, fun q => ⟨in2 3 (by omega), _, rfl, by rw [y4 q], h'⟩, fun q => ?_, fun q1 q2 q3 q4 q5 q6 => ⟨_, rfl, by rw [y6 q1 q2 q3 q4 q5 q6], h'⟩⟩
    · rw [nI_ltE (by omega) (by omega)] at q2
      exact ⟨_, rfl, by rw [y3 q, if_neg (by omega)], h'⟩
    · rw [nI_ltE (by omega) (by omega)] at q2
      exact ⟨_, rfl, by rw [y3 q, if_pos (by omega)], h'⟩
    · refine M_stale (d := 6) hM hI (by omega) hk ?_
      simp only [z_toL, List.cons_append, List.nil_append]
      rw [bX6_note_132]
      rw [y5 q]
      cases zstl S (zg (sNo S c) k zn0)
      · exact ⟨fun _ => ⟨_, rfl, rfl, h'⟩, fun z => absurd rfl z⟩
      · exact ⟨fun z => absurd z (by decide), fun _ => ⟨_, rfl, rfl, h'⟩⟩
  have ne : ∀ i j : Nat, i < 6 → j < 6 → i ≠ j → v3 = nI i → v3 = nI j → False := fun i j hi hj hij q1 q2 => hij ((nI_eqE (by omega) (by omega)).mp (q1.symm.trans q2))
  simp only [e1, in1, cl1, x1, x2, x3, x4, Nat.one_ne_zero, Bool.true_eq_false, Bool.false_eq_true, true_implies, false_implies, not_true_eq_false, not_false_eq_true, true_and, and_true, eq_self, implies_true, z_toL, z_toN, List.cons_append, List.nil_append]
  refine ⟨fun q => mo _ (fun _ => rfl) (fun z => (ne 0 1 (by omega) (by omega) (by omega) q z).elim) (fun z => (ne 0 2 (by omega) (by omega) (by omega) q z).elim) (fun z => (ne 0 3 (by omega) (by omega) (by omega) q z).elim) (fun z => (ne 0 4 (by omega) (by omega) (by omega) q z).elim) (fun z => (ne 0 5 (by omega) (by omega) (by omega) q z).elim) (fun z => absurd q z), fun q => mo _ (fun z => (ne 1 0 (by omega) (by omega) (by omega) q z).elim) (fun _ => rfl) (fun z => (ne 1 2 (by omega) (by omega) (by omega) q z).elim) (fun z => (ne 1 3 (by omega) (by omega) (by omega) q z).elim) (fun z => (ne 1 4 (by omega) (by omega) (by omega) q z).elim) (fun z => (ne 1 5 (by omega) (by omega) (by omega) q z).elim) (fun _ z => absurd q z), fun q => ?_, fun q => ?_, fun q => mo _ (fun z => (ne 4 0 (by omega) (by omega) (by omega) q z).elim) (fun z => (ne 4 1 (by omega) (by omega) (by omega) q z).elim) (fun z => (ne 4 2 (by omega) (by omega) (by omega) q z).elim) (fun z => (ne 4 3 (by omega) (by omega) (by omega) q z).elim) (fun _ => rfl) (fun z => (ne 4 5 (by omega) (by omega) (by omega) q z).elim) (fun _ _ _ _ z => absurd q z), fun q => ?_, fun q1 q2 q3 q4 q5 q6 => mo _ (fun z => absurd z q1) (fun z => absurd z q2) (fun z => absurd z q3) (fun z => absurd z q4) (fun z => absurd z q5) (fun z => absurd z q6) (fun _ _ _ _ _ _ => rfl)⟩
  · refine zef_X (P := fun z => zCall (zUn true) 8 yX6_note [.ref 28, .int (nI c), .int (nI k), .int v3] σ (fun v' σ2 => ∃ r, some (Value.int z) = some (Value.int r) ∧ v' = some (Value.int r) ∧ Rel n σ2)) g3 g4 ?_
    exact mo _ (fun z => (ne 2 0 (by omega) (by omega) (by omega) q z).elim) (fun z => (ne 2 1 (by omega) (by omega) (by omega) q z).elim) (fun _ => rfl) (fun z => (ne 2 3 (by omega) (by omega) (by omega) q z).elim) (fun z => (ne 2 4 (by omega) (by omega) (by omega) q z).elim) (fun z => (ne 2 5 (by omega) (by omega) (by omega) q z).elim) (fun _ _ z => absurd q z)
  · have wr := zt_w g3
    have nlt : (zt (zg (sNo S c) k zn0).2.2.1 < nI 256) = ¬ (768 ≤ (zg (sNo S c) k zn0).2.2.1) := by
      rw [← wr, Int32.lt_iff_toInt_lt, Int32.le_iff_toInt_le]
      exact propext ⟨fun a b => by omega, fun a => by omega⟩
    rw [nlt]
    refine ⟨fun q2 => ?_, fun q2 => ?_⟩
    · exact mo _ (fun z => (ne 3 0 (by omega) (by omega) (by omega) q z).elim) (fun z => (ne 3 1 (by omega) (by omega) (by omega) q z).elim) (fun z => (ne 3 2 (by omega) (by omega) (by omega) q z).elim) (fun _ => (if_neg q2).symm) (fun z => (ne 3 4 (by omega) (by omega) (by omega) q z).elim) (fun z => (ne 3 5 (by omega) (by omega) (by omega) q z).elim) (fun _ _ _ z => absurd q z)
    · exact mo _ (fun z => (ne 3 0 (by omega) (by omega) (by omega) q z).elim) (fun z => (ne 3 1 (by omega) (by omega) (by omega) q z).elim) (fun z => (ne 3 2 (by omega) (by omega) (by omega) q z).elim) (fun _ => (if_pos (Classical.not_not.mp q2)).symm) (fun z => (ne 3 4 (by omega) (by omega) (by omega) q z).elim) (fun z => (ne 3 5 (by omega) (by omega) (by omega) q z).elim) (fun _ _ _ z => absurd q z)
  · refine X_stale (d := 3) hX hI (by omega) hk ?_
    simp only [z_toL, List.cons_append, List.nil_append]
    rw [bX5_note_117]
    have fin := mo (zb (zstl S (zg (sNo S c) k zn0))) (fun z => (ne 5 0 (by omega) (by omega) (by omega) q z).elim) (fun z => (ne 5 1 (by omega) (by omega) (by omega) q z).elim) (fun z => (ne 5 2 (by omega) (by omega) (by omega) q z).elim) (fun z => (ne 5 3 (by omega) (by omega) (by omega) q z).elim) (fun z => (ne 5 4 (by omega) (by omega) (by omega) q z).elim) (fun _ => rfl) (fun _ _ _ _ _ z => absurd q z)
    cases hz : zstl S (zg (sNo S c) k zn0)
    · rw [hz] at fin; exact ⟨fun _ => fin, fun z => absurd rfl z⟩
    · rw [hz] at fin; exact ⟨fun z => absurd z (by decide), fun _ => fin⟩

/-! both sides: shoot -/
def zpop (m : Nat) : Nat := m % 2 + m / 2 % 2 + m / 4 % 2 + m / 8 % 2
theorem zpop_ok : ∀ m, m < 16 → ((((((((nI m - (((nI m).toUInt32 >>> (((nI 1)).toUInt32 &&& Int32.toUInt32 (nI 31))).toInt32 &&& (nI 1431655765))) &&& (nI 858993459)) + ((((nI m - (((nI m).toUInt32 >>> (((nI 1)).toUInt32 &&& Int32.toUInt32 (nI 31))).toInt32 &&& (nI 1431655765)))).toUInt32 >>> (((nI 2)).toUInt32 &&& Int32.toUInt32 (nI 31))).toInt32 &&& (nI 858993459))) + (((((nI m - (((nI m).toUInt32 >>> (((nI 1)).toUInt32 &&& Int32.toUInt32 (nI 31))).toInt32 &&& (nI 1431655765))) &&& (nI 858993459)) + ((((nI m - (((nI m).toUInt32 >>> (((nI 1)).toUInt32 &&& Int32.toUInt32 (nI 31))).toInt32 &&& (nI 1431655765)))).toUInt32 >>> (((nI 2)).toUInt32 &&& Int32.toUInt32 (nI 31))).toInt32 &&& (nI 858993459)))).toUInt32 >>> (((nI 4)).toUInt32 &&& Int32.toUInt32 (nI 31))).toInt32) &&& (nI 252645135)) + (((((((nI m - (((nI m).toUInt32 >>> (((nI 1)).toUInt32 &&& Int32.toUInt32 (nI 31))).toInt32 &&& (nI 1431655765))) &&& (nI 858993459)) + ((((nI m - (((nI m).toUInt32 >>> (((nI 1)).toUInt32 &&& Int32.toUInt32 (nI 31))).toInt32 &&& (nI 1431655765)))).toUInt32 >>> (((nI 2)).toUInt32 &&& Int32.toUInt32 (nI 31))).toInt32 &&& (nI 858993459))) + (((((nI m - (((nI m).toUInt32 >>> (((nI 1)).toUInt32 &&& Int32.toUInt32 (nI 31))).toInt32 &&& (nI 1431655765))) &&& (nI 858993459)) + ((((nI m - (((nI m).toUInt32 >>> (((nI 1)).toUInt32 &&& Int32.toUInt32 (nI 31))).toInt32 &&& (nI 1431655765)))).toUInt32 >>> (((nI 2)).toUInt32 &&& Int32.toUInt32 (nI 31))).toInt32 &&& (nI 858993459)))).toUInt32 >>> (((nI 4)).toUInt32 &&& Int32.toUInt32 (nI 31))).toInt32) &&& (nI 252645135))).toUInt32 >>> (((nI 8)).toUInt32 &&& Int32.toUInt32 (nI 31))).toInt32) + ((((((((nI m - (((nI m).toUInt32 >>> (((nI 1)).toUInt32 &&& Int32.toUInt32 (nI 31))).toInt32 &&& (nI 1431655765))) &&& (nI 858993459)) + ((((nI m - (((nI m).toUInt32 >>> (((nI 1)).toUInt32 &&& Int32.toUInt32 (nI 31))).toInt32 &&& (nI 1431655765)))).toUInt32 >>> (((nI 2)).toUInt32 &&& Int32.toUInt32 (nI 31))).toInt32 &&& (nI 858993459))) + (((((nI m - (((nI m).toUInt32 >>> (((nI 1)).toUInt32 &&& Int32.toUInt32 (nI 31))).toInt32 &&& (nI 1431655765))) &&& (nI 858993459)) + ((((nI m - (((nI m).toUInt32 >>> (((nI 1)).toUInt32 &&& Int32.toUInt32 (nI 31))).toInt32 &&& (nI 1431655765)))).toUInt32 >>> (((nI 2)).toUInt32 &&& Int32.toUInt32 (nI 31))).toInt32 &&& (nI 858993459)))).toUInt32 >>> (((nI 4)).toUInt32 &&& Int32.toUInt32 (nI 31))).toInt32) &&& (nI 252645135)) + (((((((nI m - (((nI m).toUInt32 >>> (((nI 1)).toUInt32 &&& Int32.toUInt32 (nI 31))).toInt32 &&& (nI 1431655765))) &&& (nI 858993459)) + ((((nI m - (((nI m).toUInt32 >>> (((nI 1)).toUInt32 &&& Int32.toUInt32 (nI 31))).toInt32 &&& (nI 1431655765)))).toUInt32 >>> (((nI 2)).toUInt32 &&& Int32.toUInt32 (nI 31))).toInt32 &&& (nI 858993459))) + (((((nI m - (((nI m).toUInt32 >>> (((nI 1)).toUInt32 &&& Int32.toUInt32 (nI 31))).toInt32 &&& (nI 1431655765))) &&& (nI 858993459)) + ((((nI m - (((nI m).toUInt32 >>> (((nI 1)).toUInt32 &&& Int32.toUInt32 (nI 31))).toInt32 &&& (nI 1431655765)))).toUInt32 >>> (((nI 2)).toUInt32 &&& Int32.toUInt32 (nI 31))).toInt32 &&& (nI 858993459)))).toUInt32 >>> (((nI 4)).toUInt32 &&& Int32.toUInt32 (nI 31))).toInt32) &&& (nI 252645135))).toUInt32 >>> (((nI 8)).toUInt32 &&& Int32.toUInt32 (nI 31))).toInt32)).toUInt32 >>> (((nI 16)).toUInt32 &&& Int32.toUInt32 (nI 31))).toInt32) &&& (nI 63)) = nI (zpop m) := by decide +kernel
theorem X_bits {b : Bool} {d : Nat} {Q : zQ} {σ : zV} {m : Nat} (hm : m < 16) (hQ : Q (some (.int (nI (zpop m)))) σ) : zCall (zUn b) (d + 1) yJ6_bitCount_0f7a4 [.int (nI m)] σ Q := by
  rw [sJ6_bitCount_0f7a4, zpop_ok m hm]
  exact hQ
def zcw (w : Nat → Bool) : Nat → Nat
  | 0 => 0
  | i + 1 => if w i = true then zcw w i + 1 else zcw w i
theorem zcw_le {w : Nat → Bool} : ∀ i, zcw w i ≤ i := by
  intro i
  induction i with
  | zero => exact Nat.le_refl _
  | succ i ih => unfold zcw; split <;> omega
theorem zcw_4 {w : Nat → Bool} : zcw w 4 = zpop (zmask w) := by
  unfold zmask
  simp only [zcw]
  cases w 0 <;> cases w 1 <;> cases w 2 <;> cases w 3 <;> rfl
theorem zcw_nc {w : Nat → Bool} {nc : Nat} (h4 : nc ≤ 4) (h : ∀ c, c < 4 → nc ≤ c → w c = false) : zcw w nc = zpop (zmask w) := by
  rw [← zcw_4]
  have st : ∀ i, i < 4 → nc ≤ i → zcw w (i + 1) = zcw w i := fun i hi hn => by
    show (if w i = true then _ else _) = _
    rw [h i hi hn]
    rfl
  have e : nc = 0 ∨ nc = 1 ∨ nc = 2 ∨ nc = 3 ∨ nc = 4 := by omega
  rcases e with rfl | rfl | rfl | rfl | rfl
  · rw [st 3 (by omega) (by omega), st 2 (by omega) (by omega), st 1 (by omega) (by omega), st 0 (by omega) (by omega)]
  · rw [st 3 (by omega) (by omega), st 2 (by omega) (by omega), st 1 (by omega) (by omega)]
  · rw [st 3 (by omega) (by omega), st 2 (by omega) (by omega)]
  · rw [st 3 (by omega) (by omega)]
  · rfl
theorem M_waited {d : Nat} {Q : zQ} {S : zSt} {σ : zV} {k n : Nat} (h : RM S σ) (hI : zI n S) (hk : k < (sSh S).length) (hQ : Q (some (.int (nI (zpop (zmask (zg (sSh S) k zs0).2.2.2.2.2.2))))) σ) : zCall (zUn true) (d + 1) yX6_waited [.ref 28, .int (nI k)] σ Q := by
  have hnc := hI.1.1.2
  have hl := hI.1.2.2.2.2.2.2.1.1
  have k0 : σ 28 0 = nI (sNc S) := h.1
  have h47 := (h.2.2.2.2.2.2.2.2.2 k hk).2.2.2.2.2.2
  have hz : zcw (zg (sSh S) k zs0).2.2.2.2.2.2 (sNc S) = zpop (zmask (zg (sSh S) k zs0).2.2.2.2.2.2) := zcw_nc hnc (fun c hc hn => ((hI.1.2.2.2.2.2.1 c hc).2.2 k hk).2 hn)
  rw [← hz] at hQ
  have loop : ∀ m i, m + i = sNc S → eX6_waited d Q 4 [.ref 28, .int (nI k), .int (nI (zcw (zg (sSh S) k zs0).2.2.2.2.2.2 i)), .int (nI i)] [] σ := by
    intro m
    induction m with
    | zero =>
      intro i hi
      rw [bX6_waited_4, k0, show i = sNc S by omega]
      exact ⟨fun _ => hQ, fun q => absurd (Int32.le_refl _) q⟩
    | succ m ih =>
      intro i hi
      have nle : ¬ nI (sNc S) ≤ nI i := by rw [nI_leE (by omega) (by omega)]; omega
      have e4 : nI 4 * nI k + nI i = nI (k * 4 + i) := by rw [pk_mul, nI_add, zc4]
      have nx := ih (i + 1) (by omega)
      rw [bX6_waited_4, k0, e4]
      simp (disch := omega) only [nI_clamp, vp_inE, h47 i (by omega), zb_0, nI_add, Nat.add_zero]
      refine ⟨fun q => absurd q nle, fun _ => ⟨by omega, fun q => ?_, fun q => ?_⟩⟩
      · have e : zcw (zg (sSh S) k zs0).2.2.2.2.2.2 (i + 1) = zcw (zg (sSh S) k zs0).2.2.2.2.2.2 i := by
          show (if _ then _ else _) = _
          rw [q]; rfl
        rw [e] at nx
        exact nx
      · have e : zcw (zg (sSh S) k zs0).2.2.2.2.2.2 (i + 1) = zcw (zg (sSh S) k zs0).2.2.2.2.2.2 i + 1 := by
          have qa : (zg (sSh S) k zs0).2.2.2.2.2.2 i = true := by cases ea : (zg (sSh S) k zs0).2.2.2.2.2.2 i; exact absurd ea q; rfl
          show (if _ then _ else _) = _
          rw [qa]; rfl
        rw [e] at nx
        exact nx
  rw [nX6_waited, bX6_waited_0]
  exact loop _ 0 rfl
/-- what shoot() tells of a shoot -/
def zshA (r : zSh) : Nat → Int32
  | 0 => nI r.1
  | 1 => nI r.2.1
  | 2 => r.2.2.1
  | 3 => nI r.2.2.2.1
  | 4 => r.2.2.2.2.1
  | 5 => if r.2.2.2.2.2.1 = -nI 1 then nI 0 else nI 1
  | 6 => r.2.2.2.2.2.1
  | 7 => nI (zpop (zmask r.2.2.2.2.2.2))
  | w => zb (r.2.2.2.2.2.2 (w - 8))
theorem X_shoot {b : Bool} {d : Nat} {Q : zQ} {S : zSt} {σ : zV} {k w n : Nat} (h : RX S σ) (hI : zI n S) (hk : k < (sSh S).length) (hw : w < 8 + sNc S) (hQ : Q (some (.int (zshA (zg (sSh S) k zs0) w))) σ) : zCall (zUn b) (d + 2) yX5_shoot [.ref 0, .int (nI k), .int (nI w)] σ Q := by
  have hnc := hI.1.1.2
  have hl := hI.1.2.2.2.2.2.2.1.1
  have k5 : σ 0 5 = nI (sNc S) := h.1
  have k20 : σ 20 0 = nI (sSh S).length := h.2.2.2.2.2.2.2.2.1.1
  obtain ⟨y1, y2, y3, y4, y5, y6, y7⟩ := h.2.2.2.2.2.2.2.2.1.2 k hk
  have hdn := (hI.1.2.2.2.2.2.2.1.2.1 _ (zg_mem (x := zs0) hk)).2.2.2.2
  have hm := zmask_lt (w := (zg (sSh S) k zs0).2.2.2.2.2.2)
  have g1 : ¬ nI k < nI 0 := by rw [nI_lt0 (by omega)]; exact id
  have g2 : ¬ nI (sSh S).length ≤ nI k := by rw [nI_leE (by omega) (by omega)]; omega
  have in1 : vp_in (nI k) 40 := by rw [vp_inE (by omega)]; omega
  have cl1 : (nI k).toNatClampNeg = k := nI_clamp (by omega)
  rw [nX5_shoot, bX5_shoot_0, k20]
  simp only [g1, g2, in1, cl1, y1, y2, y3, y4, y5, y6, y7, k5, Nat.one_ne_zero, Bool.true_eq_false, Bool.false_eq_true, true_implies, false_implies, not_true_eq_false, not_false_eq_true, true_and, and_true, eq_self, implies_true, z_toL, z_toN, List.cons_append, List.nil_append]
  have hw' : w = 0 ∨ w = 1 ∨ w = 2 ∨ w = 3 ∨ w = 4 ∨ w = 5 ∨ w = 6 ∨ w = 7 ∨ (8 ≤ w) := by omega
  rcases hw' with rfl | rfl | rfl | rfl | rfl | rfl | rfl | rfl | h8
  · simp (disch := omega) only [nI_eqE, Nat.reduceEqDiff, Nat.one_ne_zero, Bool.true_eq_false, Bool.false_eq_true, true_implies, false_implies, not_true_eq_false, not_false_eq_true, true_and, and_true, eq_self, implies_true, z_toL, z_toN, List.cons_append, List.nil_append]
    exact hQ
  · simp (disch := omega) only [nI_eqE, Nat.reduceEqDiff, Nat.one_ne_zero, Bool.true_eq_false, Bool.false_eq_true, true_implies, false_implies, not_true_eq_false, not_false_eq_true, true_and, and_true, eq_self, implies_true, z_toL, z_toN, List.cons_append, List.nil_append]
    exact hQ
  · simp (disch := omega) only [nI_eqE, Nat.reduceEqDiff, Nat.one_ne_zero, Bool.true_eq_false, Bool.false_eq_true, true_implies, false_implies, not_true_eq_false, not_false_eq_true, true_and, and_true, eq_self, implies_true, z_toL, z_toN, List.cons_append, List.nil_append]
    exact hQ
  · simp (disch := omega) only [nI_eqE, Nat.reduceEqDiff, Nat.one_ne_zero, Bool.true_eq_false, Bool.false_eq_true, true_implies, false_implies, not_true_eq_false, not_false_eq_true, true_and, and_true, eq_self, implies_true, z_toL, z_toN, List.cons_append, List.nil_append]
    exact hQ
  · simp (disch := omega) only [nI_eqE, Nat.reduceEqDiff, Nat.one_ne_zero, Bool.true_eq_false, Bool.false_eq_true, true_implies, false_implies, not_true_eq_false, not_false_eq_true, true_and, and_true, eq_self, implies_true, z_toL, z_toN, List.cons_append, List.nil_append]
    exact hQ
  · simp (disch := omega) only [nI_eqE, Nat.reduceEqDiff, Nat.one_ne_zero, Bool.true_eq_false, Bool.false_eq_true, true_implies, false_implies, not_true_eq_false, not_false_eq_true, true_and, and_true, eq_self, implies_true, z_toL, z_toN, List.cons_append, List.nil_append]
    have hQ : Q (some (.int (if (zg (sSh S) k zs0).2.2.2.2.2.1 = -nI 1 then nI 0 else nI 1))) σ := hQ
    refine ⟨fun q => ?_, fun q => ?_⟩
    · rw [if_pos (hdn.mpr (zmask_n0.mp q))] at hQ; exact hQ
    · rw [if_neg (fun z => zmask_n0.mpr (hdn.mp z) q)] at hQ; exact hQ
  · simp (disch := omega) only [nI_eqE, Nat.reduceEqDiff, Nat.one_ne_zero, Bool.true_eq_false, Bool.false_eq_true, true_implies, false_implies, not_true_eq_false, not_false_eq_true, true_and, and_true, eq_self, implies_true, z_toL, z_toN, List.cons_append, List.nil_append]
    exact hQ
  · simp (disch := omega) only [nI_eqE, Nat.reduceEqDiff, Nat.one_ne_zero, Bool.true_eq_false, Bool.false_eq_true, true_implies, false_implies, not_true_eq_false, not_false_eq_true, true_and, and_true, eq_self, implies_true, z_toL, z_toN, List.cons_append, List.nil_append]
    refine X_bits (d := d) hm ?_
    simp only [z_toL, List.cons_append, List.nil_append]
    rw [bX5_shoot_144]
    exact hQ
  · have ej : nI w - nI 8 = nI (w - 8) := pk_sub (by omega)
    have hQ : Q (some (.int (zb ((zg (sSh S) k zs0).2.2.2.2.2.2 (w - 8))))) σ := by
      have e : zshA (zg (sSh S) k zs0) w = zb ((zg (sSh S) k zs0).2.2.2.2.2.2 (w - 8)) := by
        match w, h8 with
        | w + 8, _ => rfl
      rw [e] at hQ
      exact hQ
    rw [ej]
    simp (disch := omega) only [nI_eqE, nI_ltE, nI_leE, zmask_and]
    refine ⟨by omega, by omega, by omega, by omega, by omega, by omega, by omega, by omega, fun _ _ _ _ _ _ _ _ => ⟨fun q => absurd q (by omega), fun _ => ⟨fun q => absurd q (by omega), fun _ => ⟨fun q => ?_, fun q => ?_⟩⟩⟩⟩
    · rw [q] at hQ; exact hQ
    · have qa : (zg (sSh S) k zs0).2.2.2.2.2.2 (w - 8) = true := by cases ea : (zg (sSh S) k zs0).2.2.2.2.2.2 (w - 8); exact absurd ea q; rfl
      rw [qa] at hQ; exact hQ

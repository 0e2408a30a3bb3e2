/-! both sides: the relation, reads -/
def Rel (n : Nat) (σ : zV) : Prop := ∃ S, RX S σ ∧ RM S σ ∧ zI n S
def zJ (yX yM : MethodName) (as : List Value) (σ : zV) (n : Nat) : Prop := zCall (zUn true) 8 yX (.ref 0 :: as) σ (fun v σ1 => zCall (zUn true) 8 yM (.ref 28 :: as) σ1 (fun v' σ2 => ∃ r, v = some (.int r) ∧ v' = some (.int r) ∧ Rel n σ2))
theorem Rel_wk {n m : Nat} {σ : zV} (h : Rel n σ) (hm : n ≤ m) : Rel m σ := by
  obtain ⟨S, h1, h2, h3⟩ := h
  exact ⟨S, h1, h2, zI_wk h3 hm⟩
theorem RX_mo {S : zSt} {σ σ' : zV} (h : RX S σ) (o : zMo σ σ') : RX S σ' := by
  obtain ⟨r1, r2, r3, r4, r5, r6, r7, r8, r9, r10⟩ := h
  exact ⟨XC_c (o 0 (by omega)) r1, XT_c (o 0 (by omega)) r2, XG_c (o 2 (by omega)) r3, XH_c (o 3 (by omega)) (o 4 (by omega)) (o 5 (by omega)) r4, XK_c (o 7 (by omega)) (o 8 (by omega)) r5, XF_c (o 10 (by omega)) r6, XN_c (o 12 (by omega)) (o 13 (by omega)) (o 14 (by omega)) (o 15 (by omega)) (o 16 (by omega)) r7, XQ_c (o 18 (by omega)) (o 19 (by omega)) r8, XS_c (o 20 (by omega)) (o 21 (by omega)) (o 22 (by omega)) (o 23 (by omega)) (o 24 (by omega)) (o 25 (by omega)) (o 26 (by omega)) (o 27 (by omega)) r9, XU_c (o 9 (by omega)) r10⟩
theorem RM_xo {S : zSt} {σ σ' : zV} (h : RM S σ) (o : zXo σ σ') : RM S σ' := by
  obtain ⟨r1, r2, r3, r4, r5, r6, r7, r8, r9⟩ := h
  exact ⟨MC_c (o 28 (by omega)) r1, MT_c (o 28 (by omega)) r2, MG_c (o 30 (by omega)) r3, MH_c (o 31 (by omega)) (o 33 (by omega)) (o 32 (by omega)) (o 29 (by omega)) r4, MK_c (o 34 (by omega)) (o 35 (by omega)) r5, MF_c (o 40 (by omega)) r6, MN_c (o 36 (by omega)) (o 37 (by omega)) r7, MQu_c (o 38 (by omega)) (o 39 (by omega)) r8, MS_c (o 28 (by omega)) (o 41 (by omega)) (o 42 (by omega)) (o 43 (by omega)) (o 44 (by omega)) (o 45 (by omega)) (o 46 (by omega)) (o 47 (by omega)) r9⟩
theorem zix (x : Int32) (n : Nat) (h0 : 0 < n) (hn : n < 2 ^ 30) : x < nI 0 ∨ (¬ x < nI 0 ∧ nI n ≤ x ∧ nI (n - 1) < x) ∨ ∃ j, j < n ∧ x = nI j := by
  rcases pk_ix x (n := n) (by omega) with h | h | h
  · exact Or.inl h
  · refine Or.inr (Or.inl ⟨?_, h, ?_⟩)
    · intro q
      rw [Int32.le_iff_toInt_le, nI_toInt (by omega)] at h
      rw [Int32.lt_iff_toInt_lt, nI_toInt (by omega)] at q
      omega
    · rw [Int32.le_iff_toInt_le, nI_toInt (by omega)] at h
      rw [Int32.lt_iff_toInt_lt, nI_toInt (by omega)]
      omega
  · exact Or.inr (Or.inr h)
theorem zX_now {S : zSt} {σ : zV} {n s p : Nat} (h : RX S σ) (hI : zI n S) (hs : s < 3) (hp : p < 16) : σ 3 (s * 16 + p) = nI (sHi S (s * 16 + p)).length ∧ 1 ≤ (sHi S (s * 16 + p)).length ∧ (sHi S (s * 16 + p)).length ≤ 20 ∧ σ 4 ((s * 16 + p) * 20 + ((sHi S (s * 16 + p)).length - 1)) = zt (zlast (sHi S (s * 16 + p))) ∧ zvE (zlast (sHi S (s * 16 + p))) := by
  obtain ⟨h1, h2⟩ := h.2.2.2.1 (s * 16 + p) (by omega)
  obtain ⟨h3, h4, h5⟩ := hI.1.2.2.1 (s * 16 + p) (by omega)
  exact ⟨h1, h3, h4, (h2 _ (by omega)).1, h5 _ (zg_mem (by omega))⟩
theorem zM_now {S : zSt} {σ : zV} {s p : Nat} (h : RM S σ) (hs : s < 3) (hp : p < 16) : σ 29 (s * 16 + p) = nI (zlast (sHi S (s * 16 + p))) := (h.2.2.2.1 (s * 16 + p) (by omega)).2.2
/-- the model's told() -/
theorem zm_told {e : Nat} (he : zvE e) {Q : Int32 → Prop} (h : Q (zt e)) : (¬ nI e = nI 0 → ((nI e < nI 768 → Q (nI e - nI 256)) ∧ (¬ nI e < nI 768 → Q ((nI e - nI 768) + nI 256)))) ∧ (nI e = nI 0 → Q (-nI 1)) := by
  rcases zt_cases he with ⟨h1, h2⟩ | ⟨h1, h2, h3⟩ | ⟨h1, h2, h3⟩
  · subst h1
    exact ⟨fun q => absurd rfl q, fun _ => by rw [h2] at h; exact h⟩
  · refine ⟨fun _ => ⟨fun _ => ?_, fun q => absurd ?_ q⟩, fun q => absurd q ?_⟩
    · rw [pk_sub (by omega), ← h3]; exact h
    · rw [nI_ltE (by omega) (by omega)]; omega
    · rw [nI_eqE (by omega) (by omega)]; omega
  · refine ⟨fun _ => ⟨fun q => absurd q ?_, fun _ => ?_⟩, fun q => absurd q ?_⟩
    · rw [nI_ltE (by omega) (by omega)]; omega
    · rw [pk_sub (by omega), nI_add, show e - 768 + 256 = e - 512 by omega, ← h3]; exact h
    · rw [nI_eqE (by omega) (by omega)]; omega
theorem zvE_lt {e : Nat} (h : zvE e) : e < 1024 := by unfold zvE at h; omega
theorem J_entry {n : Nat} {σ : zV} (h : Rel n σ) (v1 v2 : Int32) : zJ yX5_entry yX6_entry [.int v1, .int v2] σ n := by
  have h' := h
  obtain ⟨S, hX, hM, hI⟩ := h'
  unfold zJ
  rcases zix v1 3 (by omega) (by omega) with g | ⟨g1, g2, g3⟩ | ⟨s, hs, rfl⟩
  · rw [nX5_entry, bX5_entry_0]
    simp only [g, true_implies, false_implies, not_true_eq_false, not_false_eq_true, true_and, and_true, eq_self, implies_true, z_toL, z_toN, List.cons_append, List.nil_append]
    rw [nX6_entry, bX6_entry_0]
    simp only [g, true_implies, false_implies, not_true_eq_false, not_false_eq_true, true_and, and_true, eq_self, implies_true, z_toL, z_toN, List.cons_append, List.nil_append]
    exact ⟨_, rfl, rfl, h⟩
  · rw [nX5_entry, bX5_entry_0]
    simp only [g1, g2, true_implies, false_implies, not_true_eq_false, not_false_eq_true, true_and, and_true, eq_self, implies_true, z_toL, z_toN, List.cons_append, List.nil_append]
    rw [nX6_entry, bX6_entry_0]
    simp only [g1, g3, true_implies, false_implies, not_true_eq_false, not_false_eq_true, true_and, and_true, eq_self, implies_true, z_toL, z_toN, List.cons_append, List.nil_append]
    exact ⟨_, rfl, rfl, h⟩
  rcases zix v2 16 (by omega) (by omega) with g | ⟨g1, g2, g3⟩ | ⟨p, hp, rfl⟩
  · rw [nX5_entry, bX5_entry_0]
    simp (disch := omega) only [nI_add, pk_mul, pk_sub, nI_clamp, nI_ltE, nI_leE, nI_eqE, nI_m, nI_m', nI_lt0, vp_inE, Nat.not_lt_zero, zc3, zc4, zc5, zc16, zc20, zc40, g, true_implies, false_implies, not_true_eq_false, not_false_eq_true, true_and, and_true, eq_self, implies_true, z_toL, z_toN, List.cons_append, List.nil_append]
    refine ⟨fun q => absurd q (by omega), fun _ => ?_⟩
    rw [nX6_entry, bX6_entry_0]
    simp (disch := omega) only [nI_add, pk_mul, pk_sub, nI_clamp, nI_ltE, nI_leE, nI_eqE, nI_m, nI_m', nI_lt0, vp_inE, Nat.not_lt_zero, zc3, zc4, zc5, zc16, zc20, zc40, g, true_implies, false_implies, not_true_eq_false, not_false_eq_true, true_and, and_true, eq_self, implies_true, z_toL, z_toN, List.cons_append, List.nil_append]
    exact ⟨fun q => absurd q (by omega), fun _ => ⟨_, rfl, rfl, h⟩⟩
  · rw [nX5_entry, bX5_entry_0]
    simp (disch := omega) only [nI_add, pk_mul, pk_sub, nI_clamp, nI_ltE, nI_leE, nI_eqE, nI_m, nI_m', nI_lt0, vp_inE, Nat.not_lt_zero, zc3, zc4, zc5, zc16, zc20, zc40, g1, g2, true_implies, false_implies, not_true_eq_false, not_false_eq_true, true_and, and_true, eq_self, implies_true, z_toL, z_toN, List.cons_append, List.nil_append]
    refine ⟨fun q => absurd q (by omega), fun _ => ?_⟩
    rw [nX6_entry, bX6_entry_0]
    simp (disch := omega) only [nI_add, pk_mul, pk_sub, nI_clamp, nI_ltE, nI_leE, nI_eqE, nI_m, nI_m', nI_lt0, vp_inE, Nat.not_lt_zero, zc3, zc4, zc5, zc16, zc20, zc40, g1, g3, true_implies, false_implies, not_true_eq_false, not_false_eq_true, true_and, and_true, eq_self, implies_true, z_toL, z_toN, List.cons_append, List.nil_append]
    exact ⟨fun q => absurd q (by omega), fun _ => ⟨_, rfl, rfl, h⟩⟩
  obtain ⟨a1, a2, a3, a4, a5⟩ := zX_now hX hI hs hp
  have a6 := zM_now hM hs hp
  have a7 := zvE_lt a5
  rw [nX5_entry, bX5_entry_0]
  simp (disch := omega) only [nI_add, pk_mul, pk_sub, nI_clamp, nI_ltE, nI_leE, nI_eqE, nI_m, nI_m', nI_lt0, vp_inE, Nat.not_lt_zero, zc3, zc4, zc5, zc16, zc20, zc40, true_implies, false_implies, not_true_eq_false, not_false_eq_true, true_and, and_true, eq_self, implies_true, z_toL, z_toN, List.cons_append, List.nil_append, a1, a4]
  refine ⟨fun q => absurd q (by omega), fun _ => ⟨fun q => absurd q (by omega), fun _ => ⟨by omega, by omega, ?_⟩⟩⟩
  rw [nX6_entry, bX6_entry_0]
  simp (disch := omega) only [nI_add, pk_mul, nI_clamp, nI_ltE (show s < 2 ^ 31 by omega), nI_ltE (show p < 2 ^ 31 by omega), vp_inE, zc16, Nat.not_lt_zero, true_implies, false_implies, not_true_eq_false, not_false_eq_true, true_and, and_true, eq_self, implies_true, z_toL, z_toN, List.cons_append, List.nil_append, a6]
  rw [nI_ltE (by omega) (by omega), nI_ltE (by omega) (by omega)]
  refine ⟨fun q => absurd q (by omega), fun _ => ⟨fun q => absurd q (by omega), fun _ => ⟨by omega, ?_⟩⟩⟩
  exact zm_told (Q := fun x => ∃ r, some (Value.int (zt (zlast (sHi S (s * 16 + p))))) = some (.int r) ∧ some (Value.int x) = some (.int r) ∧ Rel n σ) a5 ⟨_, rfl, rfl, h⟩

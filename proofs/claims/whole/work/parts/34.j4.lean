/-! both sides: clear, rounds -/
theorem X_allN {b : Bool} {d : Nat} {Q : zQ} {S : zSt} {σ : zV} {s n : Nat} (h : RX S σ) (hI : zI n S) (hs : s < 3) (h1 : (∀ p, p < 16 → zlast (sHi S (s * 16 + p)) = 0) → Q (some (.int (nI 1))) σ) (h2 : (∃ p, p < 16 ∧ ¬ zlast (sHi S (s * 16 + p)) = 0) → Q (some (.int (nI 0))) σ) : zCall (zUn b) (d + 4) yX4_isAllNone [.ref 1, .int (nI s)] σ Q := by
  have loop : ∀ m j, m + j = 16 → (∀ p, p < j → zlast (sHi S (s * 16 + p)) = 0) → eX4_isAllNone b (d + 3) Q 2 [.ref 1, .int (nI s), .int (nI j)] [] σ := by
    intro m
    induction m with
    | zero =>
      intro j hj hz
      rw [bX4_isAllNone_2, show j = 16 by omega]
      exact ⟨fun _ => h1 (fun p hp => hz p (by omega)), fun q => absurd (Int32.le_refl _) q⟩
    | succ m ih =>
      intro j hj hz
      obtain ⟨a1, a2, a3, a4, a5⟩ := zX_now h hI hs (show j < 16 by omega)
      rw [bX4_isAllNone_2]
      simp (disch := omega) only [nI_add, pk_mul, pk_sub, nI_clamp, nI_leE, vp_inE, a1, a4, zt_none a5]
      refine ⟨fun q => absurd q (by omega), fun _ => ⟨by omega, by omega, fun q => ih (j + 1) (by omega) (fun p hp => ?_), fun q => h2 ⟨j, by omega, q⟩⟩⟩
      by_cases e : p = j
      · rw [e]; exact q
      · exact hz p (by omega)
  rw [nX4_isAllNone, bX4_isAllNone_0]
  exact loop 16 0 rfl (fun p hp => absurd hp (by omega))
def sHj (s e : Nat) (p t : Int32) (j : Nat) (S : zSt) : zSt := zMk (sNc S) (sSc S) (sGen S) (zhj (sHi S) s e p t j) (sSp S) (sAw S) (sFg S) (sNo S) (sQu S) (sSh S)
theorem zI_hj {n s e j : Nat} {p t : Int32} {S : zSt} (h : zI n S) (he : zvE e) : zI n (sHj s e p t j S) := by
  obtain ⟨⟨h1, h2, h3, h4⟩, h5⟩ := h
  exact ⟨⟨h1, h2, zIH_hj h3 he, h4⟩, h5⟩
theorem X_chall {b : Bool} {d : Nat} {Q : zQ} {S : zSt} {σ : zV} {s n : Nat} (h : RX S σ) (hI : zI n S) (hs : s < 3) (hQ : ∀ σ', RX (sHall s 0 (-nI 1) S) σ' → zXo σ σ' → Q none σ') : zCall (zUn b) (d + 4) yX4_changeAllToNone [.ref 1, .int (nI s), .int (sSc S 1)] σ Q := by
  have hz : zvE 0 := Or.inl rfl
  have loop : ∀ m j σ', m + j = 16 → RX (sHj s 0 (-nI 1) (sSc S 1) j S) σ' → zXo σ σ' → eX4_changeAllToNone b (d + 3) Q 2 [.ref 1, .int (nI s), .int (sSc S 1), .int (nI j)] [] σ' := by
    intro m
    induction m with
    | zero =>
      intro j σ' hj hR o
      have hj : j = 16 := by omega
      subst hj
      rw [bX4_changeAllToNone_2]
      exact ⟨fun _ => hQ σ' hR o, fun q => absurd (Int32.le_refl _) q⟩
    | succ m ih =>
      intro j σ' hj hR o
      have hIj : zI n (sHj s 0 (-nI 1) (sSc S 1) j S) := zI_hj hI hz
      obtain ⟨a1, a2, a3, a4, a5⟩ := zX_now hR hIj hs (show j < 16 by omega)
      have e1 : sHi (sHj s 0 (-nI 1) (sSc S 1) j S) (s * 16 + j) = sHi S (s * 16 + j) := zhj_at
      rw [e1] at a1 a2 a3 a4 a5
      have hIh : zIH (zhj (sHi S) s 0 (-nI 1) (sSc S 1) j) := hIj.1.2.2.1
      rw [bX4_changeAllToNone_2]
      simp (disch := omega) only [nI_add, pk_mul, pk_sub, nI_clamp, nI_leE, vp_inE, a1, a4, zt_none a5]
      refine ⟨fun q => absurd q (by omega), fun _ => ⟨by omega, by omega, fun q => ?_, fun q => ?_⟩⟩
      · refine ih (j + 1) σ' (by omega) ?_ o
        unfold sHj at hR ⊢
        rw [zhj_no]
        · exact hR
        · rintro (z | z)
          · rw [nI_m' (by omega) (by omega) (by omega)] at z; exact z
          · exact z.2 q
      · have rH : XH (zhj (sHi S) s 0 (-nI 1) (sSc S 1) j) σ' := hR.2.2.2.1
        have z0 : (-nI 1 : Int32) = zt 0 := rfl
        have key := X_change (b := b) (d := d + 1) (Q := fun v σ'' => eX4_changeAllToNone b (d + 3) Q 26 [.ref 1, .int (nI s), .int (sSc S 1), .int (nI j)] (v.toList ++ []) σ'') (e := 0) (t := sSc S 1) rH hIh hs (show j < 16 by omega) (fun σ2 o2 m2 => by
          simp only [z_toN, List.nil_append]
          rw [bX4_changeAllToNone_26]
          simp only [nI_add]
          have m3 := RX_hist (S := sHj s 0 (-nI 1) (sSc S 1) j S) hR o2 m2
          refine ih (j + 1) σ2 (by omega) ?_ (zXo_tr o (zXo_of o2 rfl))
          unfold sHj
          rw [zhj_yes (Or.inr ⟨rfl, q⟩)]
          exact m3)
        exact key
  rw [nX4_changeAllToNone, bX4_changeAllToNone_0]
  refine loop 16 0 σ rfl ?_ zXo_rf
  unfold sHj
  rw [zhj_0]
  exact h
theorem sHall_eq {s e : Nat} {p : Int32} {S : zSt} : sHall s e p S = sHj s e p (sSc S 1) 16 S := rfl
theorem J_clear {n : Nat} {σ : zV} (h : Rel n σ) (hn : n < 2 ^ 19) (v1 v2 : Int32) : zJ yX5_clear yX6_clear [.int v1, .int v2] σ (n + 1) := by
  have h' := Rel_wk h (show n ≤ n + 1 by omega)
  obtain ⟨S, hX, hM, hI⟩ := h
  have hnc1 := hI.1.1.1
  have hnc := hI.1.1.2
  have k5 : σ 0 5 = nI (sNc S) := hX.1
  have k0 : σ 28 0 = nI (sNc S) := hM.1
  have k6 : σ 0 6 = sSc S 1 := hX.2.1.1
  have k1 : σ 28 1 = sSc S 1 := hM.2.1.1
  have hsub : nI (sNc S) - nI 1 = nI (sNc S - 1) := pk_sub (by omega)
  unfold zJ
  rcases ziy v1 (sNc S) (by omega) (by omega) with g | ⟨g1, g2, g3⟩ | ⟨c, hc, rfl, f1a, f1b, f1c⟩
  · rw [nX5_clear, bX5_clear_0]
    simp only [k5, g, Nat.one_ne_zero, Bool.true_eq_false, Bool.false_eq_true, true_implies, false_implies, not_true_eq_false, not_false_eq_true, true_and, and_true, eq_self, implies_true, z_toL, z_toN, List.cons_append, List.nil_append]
    rw [nX6_clear, bX6_clear_0]
    simp only [k0, hsub, g, Nat.one_ne_zero, Bool.true_eq_false, Bool.false_eq_true, true_implies, false_implies, not_true_eq_false, not_false_eq_true, true_and, and_true, eq_self, implies_true, z_toL, z_toN, List.cons_append, List.nil_append]
    exact ⟨_, rfl, rfl, h'⟩
  · rw [nX5_clear, bX5_clear_0]
    simp only [k5, g1, g2, Nat.one_ne_zero, Bool.true_eq_false, Bool.false_eq_true, true_implies, false_implies, not_true_eq_false, not_false_eq_true, true_and, and_true, eq_self, implies_true, z_toL, z_toN, List.cons_append, List.nil_append]
    rw [nX6_clear, bX6_clear_0]
    simp only [k0, hsub, g1, g3, Nat.one_ne_zero, Bool.true_eq_false, Bool.false_eq_true, true_implies, false_implies, not_true_eq_false, not_false_eq_true, true_and, and_true, eq_self, implies_true, z_toL, z_toN, List.cons_append, List.nil_append]
    exact ⟨_, rfl, rfl, h'⟩
  rcases ziy v2 3 (by omega) (by omega) with g | ⟨g1, g2, g3⟩ | ⟨s, hs, rfl, f2a, f2b, f2c⟩
  · rw [nX5_clear, bX5_clear_0]
    simp only [f1a, f1b, f1c, k5, g, Nat.one_ne_zero, Bool.true_eq_false, Bool.false_eq_true, true_implies, false_implies, not_true_eq_false, not_false_eq_true, true_and, and_true, eq_self, implies_true, z_toL, z_toN, List.cons_append, List.nil_append]
    rw [nX6_clear, bX6_clear_0]
    simp only [f1a, f1b, f1c, k0, hsub, g, Nat.one_ne_zero, Bool.true_eq_false, Bool.false_eq_true, true_implies, false_implies, not_true_eq_false, not_false_eq_true, true_and, and_true, eq_self, implies_true, z_toL, z_toN, List.cons_append, List.nil_append]
    exact ⟨_, rfl, rfl, h'⟩
  · rw [nX5_clear, bX5_clear_0]
    simp only [f1a, f1b, f1c, k5, g1, g2, Nat.one_ne_zero, Bool.true_eq_false, Bool.false_eq_true, true_implies, false_implies, not_true_eq_false, not_false_eq_true, true_and, and_true, eq_self, implies_true, z_toL, z_toN, List.cons_append, List.nil_append]
    rw [nX6_clear, bX6_clear_0]
    simp only [f1a, f1b, f1c, k0, hsub, g1, g3, Nat.one_ne_zero, Bool.true_eq_false, Bool.false_eq_true, true_implies, false_implies, not_true_eq_false, not_false_eq_true, true_and, and_true, eq_self, implies_true, z_toL, z_toN, List.cons_append, List.nil_append]
    exact ⟨_, rfl, rfl, h'⟩
  have hcut := True.intro
  have hS40 := hI.1.2.2.2.2.2.2.1.1
  have hz : zvE 0 := Or.inl rfl
  have k8 : σ 8 c = zb (sAw S c) := (hX.2.2.2.2.1 c (by omega)).2
  have k9 : σ 9 c = zund (sSh S) c := hX.2.2.2.2.2.2.2.2.2 c (by omega)
  have k20 : σ 20 0 = nI (sSh S).length := hX.2.2.2.2.2.2.2.2.1.1
  have hI1 : zI (n + 1) (sInc 1 S) := zI_time hI
  -- the model's search
  have mloop : ∀ (σ1 : zV) (Q : zQ), RM S σ1 → ((∀ p, p < 16 → zlast (sHi S (s * 16 + p)) = 0) → eX6_clear 7 Q 25 [.ref 28, .int (nI c), .int (nI s), .int (nI 0), .int (nI 16)] [] σ1) → ((∃ p, p < 16 ∧ ¬ zlast (sHi S (s * 16 + p)) = 0) → eX6_clear 7 Q 25 [.ref 28, .int (nI c), .int (nI s), .int (nI 1), .int (nI 16)] [] σ1) → eX6_clear 7 Q 25 [.ref 28, .int (nI c), .int (nI s), .int (nI 0), .int (nI 0)] [] σ1 := by
    intro σ1 Q hM1 q0 q1
    have yes : ∀ m j, m + j = 16 → (∃ p, p < 16 ∧ ¬ zlast (sHi S (s * 16 + p)) = 0) → eX6_clear 7 Q 25 [.ref 28, .int (nI c), .int (nI s), .int (nI 1), .int (nI j)] [] σ1 := by
      intro m
      induction m with
      | zero => intro j hj hex; rw [show j = 16 by omega]; exact q1 hex
      | succ m ih =>
        intro j hj hex
        rw [bX6_clear_25]
        simp (disch := omega) only [nI_leE, z_10, nI_add, Nat.one_ne_zero, Bool.true_eq_false, Bool.false_eq_true, true_implies, false_implies, not_true_eq_false, not_false_eq_true, true_and, and_true, eq_self, implies_true, z_toL, z_toN, List.cons_append, List.nil_append]
        exact ⟨fun q => absurd q (by omega), fun _ => ih (j + 1) (by omega) hex⟩
    have no : ∀ m j, m + j = 16 → (∀ p, p < j → zlast (sHi S (s * 16 + p)) = 0) → eX6_clear 7 Q 25 [.ref 28, .int (nI c), .int (nI s), .int (nI 0), .int (nI j)] [] σ1 := by
      intro m
      induction m with
      | zero => intro j hj hall; rw [show j = 16 by omega]; exact q0 (fun p hp => hall p (by omega))
      | succ m ih =>
        intro j hj hall
        have a6 := zM_now hM1 hs (show j < 16 by omega)
        have a7 := zvE_lt (zX_now hX hI hs (show j < 16 by omega)).2.2.2.2
        rw [bX6_clear_25]
        simp (disch := omega) only [nI_add, pk_mul, nI_clamp, vp_inE, zc3, zc4, zc5, zc16, zc20, zc40, nI_leE, nI_eqE, a6, Nat.one_ne_zero, Bool.true_eq_false, Bool.false_eq_true, true_implies, false_implies, not_true_eq_false, not_false_eq_true, true_and, and_true, eq_self, implies_true, z_toL, z_toN, List.cons_append, List.nil_append]
        refine ⟨fun q => absurd q (by omega), fun _ => ⟨by omega, fun q => ih (j + 1) (by omega) (fun p hp => ?_), fun q => yes m (j + 1) (by omega) ⟨j, by omega, q⟩⟩⟩
        by_cases e : p = j
        · rw [e]; exact q
        · exact hall p (by omega)
    exact no 16 0 rfl (fun p hp => absurd hp (by omega))
  -- refused as STATE on both sides
  have stt : (sAw S c = false ∨ ¬ zund (sSh S) c = -nI 1 ∨ ∀ p, p < 16 → zlast (sHi S (s * 16 + p)) = 0) → zCall (zUn true) 8 yX6_clear [.ref 28, .int (nI c), .int (nI s)] σ (fun v' σ2 => ∃ r, some (Value.int (-nI 103)) = some (.int r) ∧ v' = some (.int r) ∧ Rel (n + 1) σ2) := by
    intro q
    rw [nX6_clear, bX6_clear_0]
    simp only [f1a, f1b, f1c, f2a, f2b, f2c, k0, hsub, Nat.one_ne_zero, Bool.true_eq_false, Bool.false_eq_true, true_implies, false_implies, not_true_eq_false, not_false_eq_true, true_and, and_true, eq_self, implies_true, z_toL, z_toN, List.cons_append, List.nil_append]
    refine mloop σ _ hM (fun hall => ?_) (fun hex => ?_)
    · rw [bX6_clear_25]
      refine ⟨fun _ => M_may (d := 5) hM hI (by omega) (fun z => ?_) (fun z1 z2 => ?_), fun q => absurd (Int32.le_refl _) q⟩
      · simp only [z_toL, List.cons_append, List.nil_append]
        rw [bX6_clear_68]
        exact ⟨fun _ => ⟨_, rfl, rfl, h'⟩, fun z => absurd rfl z⟩
      · simp only [z_toL, List.cons_append, List.nil_append]
        rw [bX6_clear_68]
        exact ⟨fun z => absurd z (by decide), fun _ => ⟨fun z => absurd rfl z, fun _ => ⟨_, rfl, rfl, h'⟩⟩⟩
    · rw [bX6_clear_25]
      refine ⟨fun _ => M_may (d := 5) hM hI (by omega) (fun z => ?_) (fun z1 z2 => ?_), fun q => absurd (Int32.le_refl _) q⟩
      · simp only [z_toL, List.cons_append, List.nil_append]
        rw [bX6_clear_68]
        exact ⟨fun _ => ⟨_, rfl, rfl, h'⟩, fun z => absurd rfl z⟩
      · exfalso
        rcases q with q | q | q
        · rw [z1] at q; cases q
        · exact q z2
        · obtain ⟨p, hp, hp2⟩ := hex
          exact hp2 (q p hp)
  rw [nX5_clear, bX5_clear_0]
  simp only [f1a, f1b, f1c, f2a, f2b, f2c, k5, Nat.one_ne_zero, Bool.true_eq_false, Bool.false_eq_true, true_implies, false_implies, not_true_eq_false, not_false_eq_true, true_and, and_true, eq_self, implies_true, z_toL, z_toN, List.cons_append, List.nil_append]
  simp (disch := omega) only [nI_clamp, vp_inE, k8, k9, zb_0]
  refine ⟨by omega, fun q => stt (Or.inl q), fun q => ⟨by omega, fun q2 => stt (Or.inr (Or.inl q2)), fun q2 => ?_⟩⟩
  have ha : sAw S c = true := by cases ea : sAw S c; exact absurd ea q; rfl
  refine X_allN (d := 3) hX hI hs (fun hall => ?_) (fun hex => ?_)
  · simp only [z_toL, List.cons_append, List.nil_append]
    rw [bX5_clear_34]
    exact ⟨fun z => absurd z (by decide), fun _ => stt (Or.inr (Or.inr hall))⟩
  · simp only [z_toL, List.cons_append, List.nil_append]
    rw [bX5_clear_34]
    simp (disch := omega) only [nI_ltE, zput_ii, k6, k20, Nat.one_ne_zero, Bool.true_eq_false, Bool.false_eq_true, true_implies, false_implies, not_true_eq_false, not_false_eq_true, true_and, and_true, eq_self, implies_true, z_toL, z_toN, List.cons_append, List.nil_append]
    refine ⟨fun q4 => ?_, fun q4 => ?_⟩
    · have mX : RX (sInc 1 S) (zput σ 0 6 (sSc S 1 + nI 1)) := RX_set hX 1 (by omega) (by omega) _
      rw [← sInc_1 S]
      rw [← sInc_1 S] at mX
      refine X_chall (d := 3) mX hI1 hs (fun σ1 m1 o1 => ?_)
      have hI2 : zI (n + 1) (sHall s 0 (-nI 1) (sInc 1 S)) := zI_hj hI1 hz
      simp only [z_toN, List.nil_append]
      rw [bX5_clear_75]
      refine X_begin (d := 3) (c := c) (s := s) (p := -nI 1) m1 hI2 (by omega) hc hs q4 q2 (fun σ2 m2 o2 => ?_)
      have hM1 := RM_xo hM (zXo_tr (zXo_put (by omega)) (zXo_tr o1 o2))
      have k0' : σ2 28 0 = nI (sNc S) := hM1.1
      have k16 : σ2 28 16 = nI (sSh S).length := hM1.2.2.2.2.2.2.2.2.1
      simp only [z_toL, List.cons_append, List.nil_append]
      rw [bX5_clear_82, nX6_clear, bX6_clear_0]
      simp only [f1a, f1b, f1c, f2a, f2b, f2c, k0', hsub, Nat.one_ne_zero, Bool.true_eq_false, Bool.false_eq_true, true_implies, false_implies, not_true_eq_false, not_false_eq_true, true_and, and_true, eq_self, implies_true, z_toL, z_toN, List.cons_append, List.nil_append]
      refine mloop σ2 _ hM1 (fun hall => ?_) (fun _ => ?_)
      · obtain ⟨p, hp, hp2⟩ := hex
        exact absurd (hall p hp) hp2
      · rw [bX6_clear_25]
        refine ⟨fun _ => M_may (d := 5) hM1 hI (by omega) (fun z => ?_) (fun z1 z2 => ?_), fun q => absurd (Int32.le_refl _) q⟩
        · rcases z with z | z
          · rw [ha] at z; cases z
          · exact absurd q2 z
        · simp only [z_toL, List.cons_append, List.nil_append]
          rw [bX6_clear_68]
          refine ⟨fun z => absurd z (by decide), fun _ => ⟨fun _ => ⟨fun _ => ?_, fun z => ?_⟩, fun z => absurd z (by decide)⟩⟩
          · refine M_begin (d := 4) (e := 0) hM1 hI hc hs hz (Or.inl rfl) q4 (fun σ3 m3 o3 => ?_)
            simp only [z_toL, List.cons_append, List.nil_append]
            rw [bX6_clear_100]
            exact ⟨_, rfl, rfl, _, RX_mo m2 o3, m3, zI_beg hI2 (by omega) hc hs (Or.inl rfl) q4 q2⟩
          · rw [k16, nI_eqE (by omega) (by omega)] at z
            omega
    · have k16 : σ 28 16 = nI (sSh S).length := hM.2.2.2.2.2.2.2.2.1
      rw [nX6_clear, bX6_clear_0]
      simp only [f1a, f1b, f1c, f2a, f2b, f2c, k0, hsub, Nat.one_ne_zero, Bool.true_eq_false, Bool.false_eq_true, true_implies, false_implies, not_true_eq_false, not_false_eq_true, true_and, and_true, eq_self, implies_true, z_toL, z_toN, List.cons_append, List.nil_append]
      refine mloop σ _ hM (fun hall => ?_) (fun _ => ?_)
      · obtain ⟨p, hp, hp2⟩ := hex
        exact absurd (hall p hp) hp2
      · rw [bX6_clear_25]
        refine ⟨fun _ => M_may (d := 5) hM hI (by omega) (fun z => ?_) (fun z1 z2 => ?_), fun q => absurd (Int32.le_refl _) q⟩
        · rcases z with z | z
          · rw [ha] at z; cases z
          · exact absurd q2 z
        · simp only [z_toL, List.cons_append, List.nil_append]
          rw [bX6_clear_68]
          refine ⟨fun z => absurd z (by decide), fun _ => ⟨fun _ => ⟨fun z => ?_, fun _ => ⟨_, rfl, rfl, h'⟩⟩, fun z => absurd z (by decide)⟩⟩
          rw [k16, nI_eqE (by omega) (by omega)] at z
          omega

/-! both sides: unmap, remap -/
theorem zI_hist {n p e : Nat} {S : zSt} (h : zI n S) (he : zvE e) : zI n (sHist p e S) := ⟨zInv_hist h.1 he, h.2⟩
theorem zhj_one {hi : Nat → List (Nat × Int32)} {s e p : Nat} {t : Int32} (hp : p < 16) : zhj hi s e (nI p) t 16 = va_up hi (s * 16 + p) (zadh (hi (s * 16 + p)) (e, t)) := by
  funext q
  unfold zhj va_up
  by_cases eq : q = s * 16 + p
  · subst eq
    rw [if_pos rfl, if_pos ⟨by omega, Or.inl (by rw [show s * 16 + p - s * 16 = p by omega])⟩]
  · rw [if_neg eq, if_neg]
    rintro ⟨h1, h2 | h2⟩
    · rw [nI_eqE (by omega) (by omega)] at h2
      omega
    · rw [nI_m (by omega) (by omega) (by omega)] at h2
      exact h2.1
theorem sHall_one {s e p : Nat} {S : zSt} (hp : p < 16) : sHall s e (nI p) S = sHist (s * 16 + p) e S := by
  unfold sHall sHist
  rw [zhj_one hp]
theorem X_page {b : Bool} {d : Nat} {Q : zQ} {S : zSt} {σ : zV} {c s p e n : Nat} {w : Int32} (h : RX S σ) (hI : zI n S) (hn : n < 2 ^ 20) (hc : c < sNc S) (hs : s < 3) (hp : p < 16) (he : zvE e) (hw : zt e = w)
    (h1 : (sAw S c = false ∨ ¬ zund (sSh S) c = -nI 1 ∨ zlast (sHi S (s * 16 + p)) = 0) → Q (some (.int (-nI 103))) σ)
    (h2 : sAw S c = true → zund (sSh S) c = -nI 1 → ¬ zlast (sHi S (s * 16 + p)) = 0 → (sSh S).length = 40 → Q (some (.int (-nI 104))) σ)
    (h3 : sAw S c = true → zund (sSh S) c = -nI 1 → ¬ zlast (sHi S (s * 16 + p)) = 0 → (sSh S).length < 40 → ∀ σ', RX (sBeg c s (nI p) (sHist (s * 16 + p) e (sInc 1 S))) σ' → zXo σ σ' → Q (some (.int (nI (sSh S).length))) σ') : zCall (zUn b) (d + 5) yX5_shootPage [.ref 0, .int (nI c), .int (nI s), .int (nI p), .int w] σ Q := by
  have hnc := hI.1.1.2
  have k6 : σ 0 6 = sSc S 1 := h.2.1.1
  have k8 : σ 8 c = zb (sAw S c) := (h.2.2.2.2.1 c (by omega)).2
  have k9 : σ 9 c = zund (sSh S) c := h.2.2.2.2.2.2.2.2.2 c (by omega)
  have k20 : σ 20 0 = nI (sSh S).length := h.2.2.2.2.2.2.2.2.1.1
  have hS40 := hI.1.2.2.2.2.2.2.1.1
  obtain ⟨a1, a2, a3, a4, a5⟩ := zX_now h hI hs hp
  have hIh : zIH (sHi S) := hI.1.2.2.1
  rw [nX5_shootPage, bX5_shootPage_0]
  simp (disch := omega) only [nI_add, pk_mul, pk_sub, nI_clamp, nI_ltE, vp_inE, zput_ii, k6, k8, k9, k20, a1, a4, zt_none a5, zb_0]
  refine ⟨by omega, fun q => h1 (Or.inl q), fun q => ⟨by omega, fun q2 => h1 (Or.inr (Or.inl q2)), fun q2 => ⟨by omega, by omega, fun q3 => ⟨fun q4 => ?_, fun q4 => ?_⟩, fun q3 => h1 (Or.inr (Or.inr q3))⟩⟩⟩
  · have ha : sAw S c = true := by cases ea : sAw S c; exact absurd ea q; rfl
    have mX : RX (sInc 1 S) (zput σ 0 6 (sSc S 1 + nI 1)) := RX_set h 1 (by omega) (by omega) _
    rw [← hw]
    refine X_change (e := e) mX.2.2.2.1 hIh hs hp (fun σ1 o1 m1 => ?_)
    rw [← sInc_1 S] at m1
    have m1 := RX_hist (S := sInc 1 S) mX o1 m1
    have hI1 : zI (n + 1) (sHist (s * 16 + p) e (sInc 1 S)) := zI_hist (zI_time hI) he
    simp only [z_toN, List.nil_append]
    rw [bX5_shootPage_62]
    refine X_begin (c := c) (s := s) (p := nI p) m1 hI1 (by omega) hc hs q4 q2 (fun σ2 m2 o2 => ?_)
    simp only [z_toL, List.cons_append, List.nil_append]
    rw [bX5_shootPage_69]
    exact h3 ha q2 q3 q4 σ2 m2 (zXo_tr (zXo_put (by omega)) (zXo_tr (zXo_of o1 rfl) o2))
  · have ha : sAw S c = true := by cases ea : sAw S c; exact absurd ea q; rfl
    exact h2 ha q2 q3 (by omega)
theorem M_may {d : Nat} {Q : zQ} {S : zSt} {σ : zV} {c n : Nat} (h : RM S σ) (hI : zI n S) (hc : c < 4) (h1 : (sAw S c = false ∨ ¬ zund (sSh S) c = -nI 1) → Q (some (.int (nI 0))) σ) (h2 : sAw S c = true → zund (sSh S) c = -nI 1 → Q (some (.int (nI 1))) σ) : zCall (zUn true) (d + 2) yX6_mayShoot [.ref 28, .int (nI c)] σ Q := by
  have k35 : σ 35 c = zb (sAw S c) := (h.2.2.2.2.1 c hc).2
  have hS40 := hI.1.2.2.2.2.2.2.1.1
  rw [nX6_mayShoot, bX6_mayShoot_0]
  simp (disch := omega) only [nI_clamp, vp_inE, k35, zb_0]
  refine ⟨hc, fun q => h1 (Or.inl q), fun q => M_und h.2.2.2.2.2.2.2.2 hS40 (zby hI) hc ?_⟩
  simp only [z_toL, List.cons_append, List.nil_append]
  rw [bX6_mayShoot_14]
  exact ⟨fun q2 => h1 (Or.inr q2), fun q2 => h2 (by cases ea : sAw S c; exact absurd ea q; rfl) q2⟩
theorem zpg_p {p : Nat} (h : p < 16) : zpg (nI p) := Or.inr ⟨p, h, rfl⟩
theorem J_unmap {n : Nat} {σ : zV} (h : Rel n σ) (hn : n < 2 ^ 19) (v1 v2 v3 : Int32) : zJ yX5_unmap yX6_unmap [.int v1, .int v2, .int v3] σ (n + 1) := by
  have h' := Rel_wk h (show n ≤ n + 1 by omega)
  obtain ⟨S, hX, hM, hI⟩ := h
  have hnc1 := hI.1.1.1
  have hnc := hI.1.1.2
  have k5 : σ 0 5 = nI (sNc S) := hX.1
  have k0 : σ 28 0 = nI (sNc S) := hM.1
  have k6 : σ 0 6 = sSc S 1 := hX.2.1.1
  have k1 : σ 28 1 = sSc S 1 := hM.2.1.1
  have hsub : nI (sNc S) - nI 1 = nI (sNc S - 1) := pk_sub (by omega)
  unfold zJ
  rcases ziy v1 (sNc S) (by omega) (by omega) with g | ⟨g1, g2, g3⟩ | ⟨c, hc, rfl, f1a, f1b, f1c⟩
  · rw [nX5_unmap, bX5_unmap_0]
    simp only [k5, g, Nat.one_ne_zero, Bool.true_eq_false, Bool.false_eq_true, true_implies, false_implies, not_true_eq_false, not_false_eq_true, true_and, and_true, eq_self, implies_true, z_toL, z_toN, List.cons_append, List.nil_append]
    rw [nX6_unmap, bX6_unmap_0]
    simp only [k0, hsub, g, Nat.one_ne_zero, Bool.true_eq_false, Bool.false_eq_true, true_implies, false_implies, not_true_eq_false, not_false_eq_true, true_and, and_true, eq_self, implies_true, z_toL, z_toN, List.cons_append, List.nil_append]
    exact ⟨_, rfl, rfl, h'⟩
  · rw [nX5_unmap, bX5_unmap_0]
    simp only [k5, g1, g2, Nat.one_ne_zero, Bool.true_eq_false, Bool.false_eq_true, true_implies, false_implies, not_true_eq_false, not_false_eq_true, true_and, and_true, eq_self, implies_true, z_toL, z_toN, List.cons_append, List.nil_append]
    rw [nX6_unmap, bX6_unmap_0]
    simp only [k0, hsub, g1, g3, Nat.one_ne_zero, Bool.true_eq_false, Bool.false_eq_true, true_implies, false_implies, not_true_eq_false, not_false_eq_true, true_and, and_true, eq_self, implies_true, z_toL, z_toN, List.cons_append, List.nil_append]
    exact ⟨_, rfl, rfl, h'⟩
  rcases ziy v2 3 (by omega) (by omega) with g | ⟨g1, g2, g3⟩ | ⟨s, hs, rfl, f2a, f2b, f2c⟩
  · rw [nX5_unmap, bX5_unmap_0]
    simp only [f1a, f1b, f1c, k5, g, Nat.one_ne_zero, Bool.true_eq_false, Bool.false_eq_true, true_implies, false_implies, not_true_eq_false, not_false_eq_true, true_and, and_true, eq_self, implies_true, z_toL, z_toN, List.cons_append, List.nil_append]
    rw [nX6_unmap, bX6_unmap_0]
    simp only [f1a, f1b, f1c, k0, hsub, g, Nat.one_ne_zero, Bool.true_eq_false, Bool.false_eq_true, true_implies, false_implies, not_true_eq_false, not_false_eq_true, true_and, and_true, eq_self, implies_true, z_toL, z_toN, List.cons_append, List.nil_append]
    exact ⟨_, rfl, rfl, h'⟩
  · rw [nX5_unmap, bX5_unmap_0]
    simp only [f1a, f1b, f1c, k5, g1, g2, Nat.one_ne_zero, Bool.true_eq_false, Bool.false_eq_true, true_implies, false_implies, not_true_eq_false, not_false_eq_true, true_and, and_true, eq_self, implies_true, z_toL, z_toN, List.cons_append, List.nil_append]
    rw [nX6_unmap, bX6_unmap_0]
    simp only [f1a, f1b, f1c, k0, hsub, g1, g3, Nat.one_ne_zero, Bool.true_eq_false, Bool.false_eq_true, true_implies, false_implies, not_true_eq_false, not_false_eq_true, true_and, and_true, eq_self, implies_true, z_toL, z_toN, List.cons_append, List.nil_append]
    exact ⟨_, rfl, rfl, h'⟩
  rcases ziy v3 16 (by omega) (by omega) with g | ⟨g1, g2, g3⟩ | ⟨p, hp, rfl, f3a, f3b, f3c⟩
  · rw [nX5_unmap, bX5_unmap_0]
    simp only [f1a, f1b, f1c, f2a, f2b, f2c, k5, g, Nat.one_ne_zero, Bool.true_eq_false, Bool.false_eq_true, true_implies, false_implies, not_true_eq_false, not_false_eq_true, true_and, and_true, eq_self, implies_true, z_toL, z_toN, List.cons_append, List.nil_append]
    rw [nX6_unmap, bX6_unmap_0]
    simp only [f1a, f1b, f1c, f2a, f2b, f2c, k0, hsub, g, Nat.one_ne_zero, Bool.true_eq_false, Bool.false_eq_true, true_implies, false_implies, not_true_eq_false, not_false_eq_true, true_and, and_true, eq_self, implies_true, z_toL, z_toN, List.cons_append, List.nil_append]
    exact ⟨_, rfl, rfl, h'⟩
  · rw [nX5_unmap, bX5_unmap_0]
    simp only [f1a, f1b, f1c, f2a, f2b, f2c, k5, g1, g2, Nat.one_ne_zero, Bool.true_eq_false, Bool.false_eq_true, true_implies, false_implies, not_true_eq_false, not_false_eq_true, true_and, and_true, eq_self, implies_true, z_toL, z_toN, List.cons_append, List.nil_append]
    rw [nX6_unmap, bX6_unmap_0]
    simp only [f1a, f1b, f1c, f2a, f2b, f2c, k0, hsub, g1, g3, Nat.one_ne_zero, Bool.true_eq_false, Bool.false_eq_true, true_implies, false_implies, not_true_eq_false, not_false_eq_true, true_and, and_true, eq_self, implies_true, z_toL, z_toN, List.cons_append, List.nil_append]
    exact ⟨_, rfl, rfl, h'⟩
  have hcut := True.intro
  have hS40 := hI.1.2.2.2.2.2.2.1.1
  have hz : zvE 0 := Or.inl rfl
  rw [nX5_unmap, bX5_unmap_0]
  simp only [f1a, f1b, f1c, f2a, f2b, f2c, f3a, f3b, f3c, k5, Nat.one_ne_zero, Bool.true_eq_false, Bool.false_eq_true, true_implies, false_implies, not_true_eq_false, not_false_eq_true, true_and, and_true, eq_self, implies_true, z_toL, z_toN, List.cons_append, List.nil_append]
  refine X_page (d := 2) (e := 0) hX hI (by omega) hc hs hp hz zt_0 (fun q => ?_) (fun q1 q2 q3 q4 => ?_) (fun q1 q2 q3 q4 σ1 m1 o1 => ?_)
  · have a6 := zM_now hM hs hp
    have a5 := (zX_now hX hI hs hp).2.2.2.2
    have a7 := zvE_lt a5
    simp only [z_toL, List.cons_append, List.nil_append]
    rw [bX5_unmap_33, nX6_unmap, bX6_unmap_0]
    simp only [f1a, f1b, f1c, f2a, f2b, f2c, f3a, f3b, f3c, k0, hsub, Nat.one_ne_zero, Bool.true_eq_false, Bool.false_eq_true, true_implies, false_implies, not_true_eq_false, not_false_eq_true, true_and, and_true, eq_self, implies_true, z_toL, z_toN, List.cons_append, List.nil_append]
    refine M_may (d := 5) hM hI (by omega) (fun z => ?_) (fun z1 z2 => ?_)
    · simp only [z_toL, List.cons_append, List.nil_append]
      rw [bX6_unmap_24]
      exact ⟨fun _ => ⟨_, rfl, rfl, h'⟩, fun z => absurd rfl z⟩
    · have q3 : zlast (sHi S (s * 16 + p)) = 0 := by
        rcases q with q | q | q
        · rw [z1] at q; cases q
        · exact absurd z2 q
        · exact q
      simp only [z_toL, List.cons_append, List.nil_append]
      rw [bX6_unmap_24]
      simp (disch := omega) only [nI_add, pk_mul, nI_clamp, vp_inE, zc3, zc4, zc5, zc16, zc20, zc40, nI_eqE, z_10, a6, q3, Nat.one_ne_zero, Bool.true_eq_false, Bool.false_eq_true, true_implies, false_implies, not_true_eq_false, not_false_eq_true, true_and, and_true, eq_self, implies_true, z_toL, z_toN, List.cons_append, List.nil_append]
      exact ⟨by omega, _, rfl, rfl, h'⟩
  · have a6 := zM_now hM hs hp
    have a7 := zvE_lt (zX_now hX hI hs hp).2.2.2.2
    have k16 : σ 28 16 = nI (sSh S).length := hM.2.2.2.2.2.2.2.2.1
    simp only [z_toL, List.cons_append, List.nil_append]
    rw [bX5_unmap_33, nX6_unmap, bX6_unmap_0]
    simp only [f1a, f1b, f1c, f2a, f2b, f2c, f3a, f3b, f3c, k0, hsub, Nat.one_ne_zero, Bool.true_eq_false, Bool.false_eq_true, true_implies, false_implies, not_true_eq_false, not_false_eq_true, true_and, and_true, eq_self, implies_true, z_toL, z_toN, List.cons_append, List.nil_append]
    refine M_may (d := 5) hM hI (by omega) (fun z => z.elim (fun z => by rw [q1] at z; cases z) (fun z => absurd q2 z)) (fun z1 z2 => ?_)
    simp only [z_toL, List.cons_append, List.nil_append]
    rw [bX6_unmap_24]
    simp (disch := omega) only [nI_add, pk_mul, nI_clamp, vp_inE, zc3, zc4, zc5, zc16, zc20, zc40, nI_eqE, z_10, a6, q3, k16, q4, Nat.one_ne_zero, Bool.true_eq_false, Bool.false_eq_true, true_implies, false_implies, not_true_eq_false, not_false_eq_true, true_and, and_true, eq_self, implies_true, z_toL, z_toN, List.cons_append, List.nil_append]
    exact ⟨by omega, _, rfl, rfl, h'⟩
  · have hM1 := RM_xo hM o1
    have a6 := zM_now hM1 hs hp
    have a7 := zvE_lt (zX_now hX hI hs hp).2.2.2.2
    have k16 : σ1 28 16 = nI (sSh S).length := hM1.2.2.2.2.2.2.2.2.1
    have k0' : σ1 28 0 = nI (sNc S) := hM1.1
    have hne : ¬ (sSh S).length = 40 := by omega
    simp only [z_toL, List.cons_append, List.nil_append]
    rw [bX5_unmap_33, nX6_unmap, bX6_unmap_0]
    simp only [f1a, f1b, f1c, f2a, f2b, f2c, f3a, f3b, f3c, k0', hsub, Nat.one_ne_zero, Bool.true_eq_false, Bool.false_eq_true, true_implies, false_implies, not_true_eq_false, not_false_eq_true, true_and, and_true, eq_self, implies_true, z_toL, z_toN, List.cons_append, List.nil_append]
    refine M_may (d := 5) hM1 hI (by omega) (fun z => z.elim (fun z => by rw [q1] at z; cases z) (fun z => absurd q2 z)) (fun z1 z2 => ?_)
    simp only [z_toL, List.cons_append, List.nil_append]
    rw [bX6_unmap_24]
    simp (disch := omega) only [nI_add, pk_mul, nI_clamp, vp_inE, zc3, zc4, zc5, zc16, zc20, zc40, nI_eqE, z_10, a6, q3, k16, hne, Nat.one_ne_zero, Bool.true_eq_false, Bool.false_eq_true, true_implies, false_implies, not_true_eq_false, not_false_eq_true, true_and, and_true, eq_self, implies_true, z_toL, z_toN, List.cons_append, List.nil_append]
    refine ⟨by omega, M_begin (d := 4) (e := 0) hM1 hI hc hs hz (zpg_p hp) q4 (fun σ2 m2 o2 => ?_)⟩
    simp only [z_toL, List.cons_append, List.nil_append]
    rw [bX6_unmap_66]
    rw [sHall_one hp] at m2
    have hI1 : zI (n + 1) (sHist (s * 16 + p) 0 (sInc 1 S)) := zI_hist (zI_time hI) hz
    exact ⟨_, rfl, rfl, _, RX_mo m1 o2, m2, zI_beg hI1 (by omega) hc hs (zpg_p hp) q4 q2⟩
theorem J_remap {n : Nat} {σ : zV} (h : Rel n σ) (hn : n < 2 ^ 19) (v1 v2 v3 v4 v5 : Int32) : zJ yX5_remap yX6_remap [.int v1, .int v2, .int v3, .int v4, .int v5] σ (n + 1) := by
  have h' := Rel_wk h (show n ≤ n + 1 by omega)
  obtain ⟨S, hX, hM, hI⟩ := h
  have hnc1 := hI.1.1.1
  have hnc := hI.1.1.2
  have k5 : σ 0 5 = nI (sNc S) := hX.1
  have k0 : σ 28 0 = nI (sNc S) := hM.1
  have k6 : σ 0 6 = sSc S 1 := hX.2.1.1
  have k1 : σ 28 1 = sSc S 1 := hM.2.1.1
  have hsub : nI (sNc S) - nI 1 = nI (sNc S - 1) := pk_sub (by omega)
  unfold zJ
  rcases ziy v1 (sNc S) (by omega) (by omega) with g | ⟨g1, g2, g3⟩ | ⟨c, hc, rfl, f1a, f1b, f1c⟩
  · rw [nX5_remap, bX5_remap_0]
    simp only [k5, g, Nat.one_ne_zero, Bool.true_eq_false, Bool.false_eq_true, true_implies, false_implies, not_true_eq_false, not_false_eq_true, true_and, and_true, eq_self, implies_true, z_toL, z_toN, List.cons_append, List.nil_append]
    rw [nX6_remap, bX6_remap_0]
    simp only [k0, hsub, g, Nat.one_ne_zero, Bool.true_eq_false, Bool.false_eq_true, true_implies, false_implies, not_true_eq_false, not_false_eq_true, true_and, and_true, eq_self, implies_true, z_toL, z_toN, List.cons_append, List.nil_append]
    exact ⟨_, rfl, rfl, h'⟩
  · rw [nX5_remap, bX5_remap_0]
    simp only [k5, g1, g2, Nat.one_ne_zero, Bool.true_eq_false, Bool.false_eq_true, true_implies, false_implies, not_true_eq_false, not_false_eq_true, true_and, and_true, eq_self, implies_true, z_toL, z_toN, List.cons_append, List.nil_append]
    rw [nX6_remap, bX6_remap_0]
    simp only [k0, hsub, g1, g3, Nat.one_ne_zero, Bool.true_eq_false, Bool.false_eq_true, true_implies, false_implies, not_true_eq_false, not_false_eq_true, true_and, and_true, eq_self, implies_true, z_toL, z_toN, List.cons_append, List.nil_append]
    exact ⟨_, rfl, rfl, h'⟩
  rcases ziy v2 3 (by omega) (by omega) with g | ⟨g1, g2, g3⟩ | ⟨s, hs, rfl, f2a, f2b, f2c⟩
  · rw [nX5_remap, bX5_remap_0]
    simp only [f1a, f1b, f1c, k5, g, Nat.one_ne_zero, Bool.true_eq_false, Bool.false_eq_true, true_implies, false_implies, not_true_eq_false, not_false_eq_true, true_and, and_true, eq_self, implies_true, z_toL, z_toN, List.cons_append, List.nil_append]
    rw [nX6_remap, bX6_remap_0]
    simp only [f1a, f1b, f1c, k0, hsub, g, Nat.one_ne_zero, Bool.true_eq_false, Bool.false_eq_true, true_implies, false_implies, not_true_eq_false, not_false_eq_true, true_and, and_true, eq_self, implies_true, z_toL, z_toN, List.cons_append, List.nil_append]
    exact ⟨_, rfl, rfl, h'⟩
  · rw [nX5_remap, bX5_remap_0]
    simp only [f1a, f1b, f1c, k5, g1, g2, Nat.one_ne_zero, Bool.true_eq_false, Bool.false_eq_true, true_implies, false_implies, not_true_eq_false, not_false_eq_true, true_and, and_true, eq_self, implies_true, z_toL, z_toN, List.cons_append, List.nil_append]
    rw [nX6_remap, bX6_remap_0]
    simp only [f1a, f1b, f1c, k0, hsub, g1, g3, Nat.one_ne_zero, Bool.true_eq_false, Bool.false_eq_true, true_implies, false_implies, not_true_eq_false, not_false_eq_true, true_and, and_true, eq_self, implies_true, z_toL, z_toN, List.cons_append, List.nil_append]
    exact ⟨_, rfl, rfl, h'⟩
  rcases ziy v3 16 (by omega) (by omega) with g | ⟨g1, g2, g3⟩ | ⟨p, hp, rfl, f3a, f3b, f3c⟩
  · rw [nX5_remap, bX5_remap_0]
    simp only [f1a, f1b, f1c, f2a, f2b, f2c, k5, g, Nat.one_ne_zero, Bool.true_eq_false, Bool.false_eq_true, true_implies, false_implies, not_true_eq_false, not_false_eq_true, true_and, and_true, eq_self, implies_true, z_toL, z_toN, List.cons_append, List.nil_append]
    rw [nX6_remap, bX6_remap_0]
    simp only [f1a, f1b, f1c, f2a, f2b, f2c, k0, hsub, g, Nat.one_ne_zero, Bool.true_eq_false, Bool.false_eq_true, true_implies, false_implies, not_true_eq_false, not_false_eq_true, true_and, and_true, eq_self, implies_true, z_toL, z_toN, List.cons_append, List.nil_append]
    exact ⟨_, rfl, rfl, h'⟩
  · rw [nX5_remap, bX5_remap_0]
    simp only [f1a, f1b, f1c, f2a, f2b, f2c, k5, g1, g2, Nat.one_ne_zero, Bool.true_eq_false, Bool.false_eq_true, true_implies, false_implies, not_true_eq_false, not_false_eq_true, true_and, and_true, eq_self, implies_true, z_toL, z_toN, List.cons_append, List.nil_append]
    rw [nX6_remap, bX6_remap_0]
    simp only [f1a, f1b, f1c, f2a, f2b, f2c, k0, hsub, g1, g3, Nat.one_ne_zero, Bool.true_eq_false, Bool.false_eq_true, true_implies, false_implies, not_true_eq_false, not_false_eq_true, true_and, and_true, eq_self, implies_true, z_toL, z_toN, List.cons_append, List.nil_append]
    exact ⟨_, rfl, rfl, h'⟩
  rcases ziy v4 256 (by omega) (by omega) with g | ⟨g1, g2, g3⟩ | ⟨f, hf, rfl, f4a, f4b, f4c⟩
  · rw [nX5_remap, bX5_remap_0]
    simp only [f1a, f1b, f1c, f2a, f2b, f2c, f3a, f3b, f3c, k5, g, Nat.one_ne_zero, Bool.true_eq_false, Bool.false_eq_true, true_implies, false_implies, not_true_eq_false, not_false_eq_true, true_and, and_true, eq_self, implies_true, z_toL, z_toN, List.cons_append, List.nil_append]
    rw [nX6_remap, bX6_remap_0]
    simp only [f1a, f1b, f1c, f2a, f2b, f2c, f3a, f3b, f3c, k0, hsub, g, Nat.one_ne_zero, Bool.true_eq_false, Bool.false_eq_true, true_implies, false_implies, not_true_eq_false, not_false_eq_true, true_and, and_true, eq_self, implies_true, z_toL, z_toN, List.cons_append, List.nil_append]
    exact ⟨_, rfl, rfl, h'⟩
  · rw [nX5_remap, bX5_remap_0]
    simp only [f1a, f1b, f1c, f2a, f2b, f2c, f3a, f3b, f3c, k5, g1, g2, Nat.one_ne_zero, Bool.true_eq_false, Bool.false_eq_true, true_implies, false_implies, not_true_eq_false, not_false_eq_true, true_and, and_true, eq_self, implies_true, z_toL, z_toN, List.cons_append, List.nil_append]
    rw [nX6_remap, bX6_remap_0]
    simp only [f1a, f1b, f1c, f2a, f2b, f2c, f3a, f3b, f3c, k0, hsub, g1, g3, Nat.one_ne_zero, Bool.true_eq_false, Bool.false_eq_true, true_implies, false_implies, not_true_eq_false, not_false_eq_true, true_and, and_true, eq_self, implies_true, z_toL, z_toN, List.cons_append, List.nil_append]
    exact ⟨_, rfl, rfl, h'⟩
  have hcut := True.intro
  have hS40 := hI.1.2.2.2.2.2.2.1.1
  have main : ∀ (e : Nat) (w : Int32), zvE e → zt e = w → (v5 = nI 0 → e = f + 256) → (¬ v5 = nI 0 → e = f + 768) → zCall (zUn true) 7 yX5_shootPage [.ref 0, .int (nI c), .int (nI s), .int (nI p), .int w] σ (fun v σ1 => eX5_remap true 7 (fun v σ1 => zCall (zUn true) 8 yX6_remap [.ref 28, .int (nI c), .int (nI s), .int (nI p), .int (nI f), .int v5] σ1 (fun v' σ2 => ∃ r, v = some (.int r) ∧ v' = some (.int r) ∧ Rel (n + 1) σ2)) 50 [.ref 0, .int (nI c), .int (nI s), .int (nI p), .int (nI f), .int v5] (v.toList ++ []) σ1) := by
    intro e w hz hw w0 w1
    refine X_page (d := 2) (e := e) hX hI (by omega) hc hs hp hz hw (fun q => ?_) (fun q1 q2 q3 q4 => ?_) (fun q1 q2 q3 q4 σ1 m1 o1 => ?_)
    · have a6 := zM_now hM hs hp
      have a5 := (zX_now hX hI hs hp).2.2.2.2
      have a7 := zvE_lt a5
      simp only [z_toL, List.cons_append, List.nil_append]
      rw [bX5_remap_50, nX6_remap, bX6_remap_0]
      simp only [f1a, f1b, f1c, f2a, f2b, f2c, f3a, f3b, f3c, f4a, f4b, f4c, k0, hsub, Nat.one_ne_zero, Bool.true_eq_false, Bool.false_eq_true, true_implies, false_implies, not_true_eq_false, not_false_eq_true, true_and, and_true, eq_self, implies_true, z_toL, z_toN, List.cons_append, List.nil_append]
      refine M_may (d := 5) hM hI (by omega) (fun z => ?_) (fun z1 z2 => ?_)
      · simp only [z_toL, List.cons_append, List.nil_append]
        rw [bX6_remap_39]
        exact ⟨fun _ => ⟨_, rfl, rfl, h'⟩, fun z => absurd rfl z⟩
      · have q3 : zlast (sHi S (s * 16 + p)) = 0 := by
          rcases q with q | q | q
          · rw [z1] at q; cases q
          · exact absurd z2 q
          · exact q
        simp only [z_toL, List.cons_append, List.nil_append]
        rw [bX6_remap_39]
        simp (disch := omega) only [nI_add, pk_mul, nI_clamp, vp_inE, zc3, zc4, zc5, zc16, zc20, zc40, nI_eqE, z_10, a6, q3, Nat.one_ne_zero, Bool.true_eq_false, Bool.false_eq_true, true_implies, false_implies, not_true_eq_false, not_false_eq_true, true_and, and_true, eq_self, implies_true, z_toL, z_toN, List.cons_append, List.nil_append]
        exact ⟨by omega, _, rfl, rfl, h'⟩
    · have a6 := zM_now hM hs hp
      have a7 := zvE_lt (zX_now hX hI hs hp).2.2.2.2
      have k16 : σ 28 16 = nI (sSh S).length := hM.2.2.2.2.2.2.2.2.1
      simp only [z_toL, List.cons_append, List.nil_append]
      rw [bX5_remap_50, nX6_remap, bX6_remap_0]
      simp only [f1a, f1b, f1c, f2a, f2b, f2c, f3a, f3b, f3c, f4a, f4b, f4c, k0, hsub, Nat.one_ne_zero, Bool.true_eq_false, Bool.false_eq_true, true_implies, false_implies, not_true_eq_false, not_false_eq_true, true_and, and_true, eq_self, implies_true, z_toL, z_toN, List.cons_append, List.nil_append]
      refine M_may (d := 5) hM hI (by omega) (fun z => z.elim (fun z => by rw [q1] at z; cases z) (fun z => absurd q2 z)) (fun z1 z2 => ?_)
      simp only [z_toL, List.cons_append, List.nil_append]
      rw [bX6_remap_39]
      simp (disch := omega) only [nI_add, pk_mul, nI_clamp, vp_inE, zc3, zc4, zc5, zc16, zc20, zc40, nI_eqE, z_10, a6, q3, k16, q4, Nat.one_ne_zero, Bool.true_eq_false, Bool.false_eq_true, true_implies, false_implies, not_true_eq_false, not_false_eq_true, true_and, and_true, eq_self, implies_true, z_toL, z_toN, List.cons_append, List.nil_append]
      exact ⟨by omega, _, rfl, rfl, h'⟩
    · have hM1 := RM_xo hM o1
      have a6 := zM_now hM1 hs hp
      have a7 := zvE_lt (zX_now hX hI hs hp).2.2.2.2
      have k16 : σ1 28 16 = nI (sSh S).length := hM1.2.2.2.2.2.2.2.2.1
      have k0' : σ1 28 0 = nI (sNc S) := hM1.1
      have hne : ¬ (sSh S).length = 40 := by omega
      have fin : ∀ e2 : Nat, e2 = e → zCall (zUn true) 7 yX6_begins [.ref 28, .int (nI c), .int (nI s), .int (nI p), .int (nI e2)] σ1 (fun v σ' => eX6_remap 7 (fun v' σ2 => ∃ r, some (Value.int (nI (sSh S).length)) = some (.int r) ∧ v' = some (.int r) ∧ Rel (n + 1) σ2) 87 [.ref 28, .int (nI c), .int (nI s), .int (nI p), .int (nI f), .int v5] (v.toList ++ []) σ') := by
        intro e2 he2
        subst he2
        refine M_begin (d := 4) (e := e2) hM1 hI hc hs hz (zpg_p hp) q4 (fun σ2 m2 o2 => ?_)
        simp only [z_toL, List.cons_append, List.nil_append]
        rw [bX6_remap_87]
        rw [sHall_one hp] at m2
        have hI1 : zI (n + 1) (sHist (s * 16 + p) e2 (sInc 1 S)) := zI_hist (zI_time hI) hz
        exact ⟨_, rfl, rfl, _, RX_mo m1 o2, m2, zI_beg hI1 (by omega) hc hs (zpg_p hp) q4 q2⟩
      simp only [z_toL, List.cons_append, List.nil_append]
      rw [bX5_remap_50, nX6_remap, bX6_remap_0]
      simp only [f1a, f1b, f1c, f2a, f2b, f2c, f3a, f3b, f3c, f4a, f4b, f4c, k0', hsub, Nat.one_ne_zero, Bool.true_eq_false, Bool.false_eq_true, true_implies, false_implies, not_true_eq_false, not_false_eq_true, true_and, and_true, eq_self, implies_true, z_toL, z_toN, List.cons_append, List.nil_append]
      refine M_may (d := 5) hM1 hI (by omega) (fun z => z.elim (fun z => by rw [q1] at z; cases z) (fun z => absurd q2 z)) (fun z1 z2 => ?_)
      simp only [z_toL, List.cons_append, List.nil_append]
      rw [bX6_remap_39]
      simp (disch := omega) only [nI_add, pk_mul, nI_clamp, vp_inE, zc3, zc4, zc5, zc16, zc20, zc40, nI_eqE, z_10, a6, q3, k16, hne, Nat.one_ne_zero, Bool.true_eq_false, Bool.false_eq_true, true_implies, false_implies, not_true_eq_false, not_false_eq_true, true_and, and_true, eq_self, implies_true, z_toL, z_toN, List.cons_append, List.nil_append]
      exact ⟨by omega, fun q => fin _ (w0 q).symm, fun q => fin _ (w1 q).symm⟩
  rw [nX5_remap, bX5_remap_0]
  simp only [f1a, f1b, f1c, f2a, f2b, f2c, f3a, f3b, f3c, f4a, f4b, f4c, k5, nI_add, Nat.one_ne_zero, Bool.true_eq_false, Bool.false_eq_true, true_implies, false_implies, not_true_eq_false, not_false_eq_true, true_and, and_true, eq_self, implies_true, z_toL, z_toN, List.cons_append, List.nil_append]
  refine ⟨fun q => ?_, fun q => ?_⟩
  · exact main (f + 256) _ (Or.inr (Or.inl (by omega))) (zt_f0 hf) (fun _ => rfl) (fun z => absurd q z)
  · exact main (f + 768) _ (Or.inr (Or.inr (by omega))) (zt_f1 hf) (fun z => absurd z q) (fun _ => rfl)

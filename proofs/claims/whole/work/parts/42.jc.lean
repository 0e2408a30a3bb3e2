/-! both sides: look -/
theorem zfn_none {l : List zNote} {s p : Nat} (h : ∀ j, j < l.length → zmN (zg l j zn0) s p = false) : ∀ y ∈ l, ¬ (y.1 = s ∧ y.2.1 = p) := by
  intro y hy hq
  obtain ⟨k, hk, e⟩ := zg_of_mem (x := zn0) hy
  have := h k hk
  rw [e, zmN_3 hq.1 hq.2] at this
  cases this
theorem zI_wlk {n c s p : Nat} {S : zSt} (h : zI n S) (hc : c < 4) (hs : s < 3) (hp : p < 16) (h0 : zlast (sHi S (s * 16 + p)) ≠ 0) (hn : ∀ y ∈ sNo S c, ¬ (y.1 = s ∧ y.2.1 = p)) : zI n (sWlk c s p S) := by
  have a5 : zvE (zlast (sHi S (s * 16 + p))) := by
    obtain ⟨h3, h4, h5⟩ := h.1.2.2.1 (s * 16 + p) (by omega)
    exact h5 _ (zg_mem (x := zh0) (show (sHi S (s * 16 + p)).length - 1 < _ by omega))
  have h2 : zI n (sSet 2 (nI 3) (sInc 6 S)) := zI_set (zI_set h (by omega)) (by omega)
  exact ⟨zInv_note (S := sSet 2 (nI 3) (sInc 6 S)) h2.1 hc ⟨hs, hp, a5, h0⟩ hn, h2.2⟩
theorem zI_flt {n : Nat} {S : zSt} (h : zI n S) : zI n (sFlt S) := zI_set (zI_set h (by omega)) (by omega)
theorem J_look {n : Nat} {σ : zV} (h : Rel n σ) (hn : n < 2 ^ 19) (v1 v2 v3 : Int32) : zJ yX5_look yX6_look [.int v1, .int v2, .int v3] σ (n + 1) := by
  have h' := Rel_wk h (show n ≤ n + 1 by omega)
  obtain ⟨S, hX, hM, hI⟩ := h
  have hnc1 := hI.1.1.1
  have hnc := hI.1.1.2
  have k5 : σ 0 5 = nI (sNc S) := hX.1
  have k0 : σ 28 0 = nI (sNc S) := hM.1
  have k6 : σ 0 6 = sSc S 1 := hX.2.1.1
  have k1 : σ 28 1 = sSc S 1 := hM.2.1.1
  have hsub : nI (sNc S) - nI 1 = nI (sNc S - 1) := pk_sub (by omega)
  unfold zJ
  rcases ziy v1 (sNc S) (by omega) (by omega) with g | ⟨g1, g2, g3⟩ | ⟨c, hc, rfl, f1a, f1b, f1c⟩
  · rw [nX5_look, bX5_look_0]
    simp only [k5, g, Nat.one_ne_zero, Bool.true_eq_false, Bool.false_eq_true, true_implies, false_implies, not_true_eq_false, not_false_eq_true, true_and, and_true, eq_self, implies_true, z_toL, z_toN, List.cons_append, List.nil_append]
    rw [nX6_look, bX6_look_0]
    simp only [k0, hsub, g, Nat.one_ne_zero, Bool.true_eq_false, Bool.false_eq_true, true_implies, false_implies, not_true_eq_false, not_false_eq_true, true_and, and_true, eq_self, implies_true, z_toL, z_toN, List.cons_append, List.nil_append]
    exact ⟨_, rfl, rfl, h'⟩
  · rw [nX5_look, bX5_look_0]
    simp only [k5, g1, g2, Nat.one_ne_zero, Bool.true_eq_false, Bool.false_eq_true, true_implies, false_implies, not_true_eq_false, not_false_eq_true, true_and, and_true, eq_self, implies_true, z_toL, z_toN, List.cons_append, List.nil_append]
    rw [nX6_look, bX6_look_0]
    simp only [k0, hsub, g1, g3, Nat.one_ne_zero, Bool.true_eq_false, Bool.false_eq_true, true_implies, false_implies, not_true_eq_false, not_false_eq_true, true_and, and_true, eq_self, implies_true, z_toL, z_toN, List.cons_append, List.nil_append]
    exact ⟨_, rfl, rfl, h'⟩
  rcases ziy v2 16 (by omega) (by omega) with g | ⟨g1, g2, g3⟩ | ⟨p, hp, rfl, f2a, f2b, f2c⟩
  · rw [nX5_look, bX5_look_0]
    simp only [f1a, f1b, f1c, k5, g, Nat.one_ne_zero, Bool.true_eq_false, Bool.false_eq_true, true_implies, false_implies, not_true_eq_false, not_false_eq_true, true_and, and_true, eq_self, implies_true, z_toL, z_toN, List.cons_append, List.nil_append]
    rw [nX6_look, bX6_look_0]
    simp only [f1a, f1b, f1c, k0, hsub, g, Nat.one_ne_zero, Bool.true_eq_false, Bool.false_eq_true, true_implies, false_implies, not_true_eq_false, not_false_eq_true, true_and, and_true, eq_self, implies_true, z_toL, z_toN, List.cons_append, List.nil_append]
    exact ⟨_, rfl, rfl, h'⟩
  · rw [nX5_look, bX5_look_0]
    simp only [f1a, f1b, f1c, k5, g1, g2, Nat.one_ne_zero, Bool.true_eq_false, Bool.false_eq_true, true_implies, false_implies, not_true_eq_false, not_false_eq_true, true_and, and_true, eq_self, implies_true, z_toL, z_toN, List.cons_append, List.nil_append]
    rw [nX6_look, bX6_look_0]
    simp only [f1a, f1b, f1c, k0, hsub, g1, g3, Nat.one_ne_zero, Bool.true_eq_false, Bool.false_eq_true, true_implies, false_implies, not_true_eq_false, not_false_eq_true, true_and, and_true, eq_self, implies_true, z_toL, z_toN, List.cons_append, List.nil_append]
    exact ⟨_, rfl, rfl, h'⟩
  have hcut := True.intro
  obtain ⟨x7, x8⟩ := hX.2.2.2.2.1 c (by omega)
  obtain ⟨m34, m35⟩ := hM.2.2.2.2.1 c (by omega)
  have hsp := hI.1.2.2.2.1 c (by omega)
  have hin4 : vp_in (nI c) 4 := by rw [vp_inE (by omega)]; omega
  have hcl : (nI c).toNatClampNeg = c := nI_clamp (by omega)
  have hI1 : zI (n + 1) (sInc 1 S) := zI_time hI
  have mX : RX (sInc 1 S) (zput σ 0 6 (sSc S 1 + nI 1)) := RX_set hX 1 (by omega) (by omega) _
  have oX : zXo σ (zput σ 0 6 (sSc S 1 + nI 1)) := zXo_put (by omega)
  have z7 : zput σ 0 6 (sSc S 1 + nI 1) 7 c = nI (sSp S c) := by rw [zput_ne (by omega)]; exact x7
  rw [nX5_look, bX5_look_0]
  simp only [f1a, f1b, f1c, f2a, f2b, f2c, k5, hin4, hcl, x8, k6, z7, zb_0, Nat.one_ne_zero, Bool.true_eq_false, Bool.false_eq_true, true_implies, false_implies, not_true_eq_false, not_false_eq_true, true_and, and_true, eq_self, implies_true, z_toL, z_toN, List.cons_append, List.nil_append]
  refine ⟨fun qa => ?_, fun qa => by
    rw [nX6_look, bX6_look_0]
    simp only [f1a, f1b, f1c, f2a, f2b, f2c, k0, hsub, hin4, hcl, m35, zb_0, qa, Nat.one_ne_zero, Bool.true_eq_false, Bool.false_eq_true, true_implies, false_implies, not_true_eq_false, not_false_eq_true, true_and, and_true, eq_self, implies_true, z_toL, z_toN, List.cons_append, List.nil_append]
    exact ⟨_, rfl, rfl, h'⟩⟩
  generalize hs : sSp S c = s at *
  generalize hz : zput σ 0 6 (sSc S 1 + nI 1) = σ0 at mX oX
  -- the model's start
  have mst : ∀ (σ1 : zV) (Q : zQ), RM S σ1 → (∀ σ2, RM (sInc 1 S) σ2 → zMo σ1 σ2 → eX6_look 7 Q 59 [.ref 28, .int (nI c), .int (nI p), .int v3, .int (nI s), .null, .null] [.int (zcode (zfn (sNo S c) s p))] σ2) → zCall (zUn true) 8 yX6_look [.ref 28, .int (nI c), .int (nI p), .int v3] σ1 Q := by
    intro σ1 Q hM1 hq
    have k0' : σ1 28 0 = nI (sNc S) := hM1.1
    have k1' : σ1 28 1 = sSc S 1 := hM1.2.1.1
    obtain ⟨m34, m35⟩ := hM1.2.2.2.2.1 c (by omega)
    have mM : RM (sInc 1 S) (zput σ1 28 1 (sSc S 1 + nI 1)) := RM_set1 hM1 _
    have z34 : zput σ1 28 1 (sSc S 1 + nI 1) 34 c = nI s := by rw [zput_ne (by omega), m34, hs]
    rw [nX6_look, bX6_look_0]
    simp only [f1a, f1b, f1c, f2a, f2b, f2c, k0', hsub, hin4, hcl, m35, zb_0, qa, k1', z34, Nat.one_ne_zero, Bool.true_eq_false, Bool.false_eq_true, true_implies, false_implies, not_true_eq_false, not_false_eq_true, true_and, and_true, eq_self, implies_true, z_toL, z_toN, List.cons_append, List.nil_append]
    refine M_find (d := 6) (c := c) mM.2.2.2.2.2.2.1 hI1.1.2.2.2.2.1 (by omega) hsp hp ?_
    exact hq _ mM (zMo_put (by omega))
  refine X_find (d := 4) (c := c) mX.2.2.2.2.2.2.1 hI1.1.2.2.2.2.1 (by omega) hsp hp ?_
  simp only [z_toL, List.cons_append, List.nil_append]
  have hno : sNo (sInc 1 S) = sNo S := rfl
  rw [bX5_look_65, hno]
  rcases zfst_of (p := fun k => zmN (zg (sNo S c) k zn0) s p) (n := (sNo S c).length) with ⟨e1, e2⟩ | ⟨k, e1, hk, e3, e4⟩
  · have ef : zfn (sNo S c) s p = none := e1
    have hfr := zfn_none e2
    rw [ef]
    refine ⟨fun q => absurd rfl q, fun _ => ?_⟩
    refine X_walk (d := 2) (c := c) mX hI1 (by omega) hsp hp (fun qf σ1 m1 o1 => ?_) (fun qf σ1 m1 o1 => ?_)
    · simp only [z_toL, List.cons_append, List.nil_append]
      rw [bX5_look_82]
      refine mst σ1 _ (RM_xo hM (zXo_tr oX o1)) (fun σ2 m2 o2 => ?_)
      rw [ef, bX6_look_59]
      refine ⟨fun _ => M_walk (d := 5) (c := c) m2 hI1 (by omega) hsp hp (fun _ σ3 m3 o3 => ?_) (fun z => absurd qf z), fun q => absurd rfl q⟩
      exact ⟨_, rfl, rfl, _, RX_mo m1 (zMo_tr o2 o3), m3, zI_flt hI1⟩
    · simp only [z_toL, List.cons_append, List.nil_append]
      rw [bX5_look_82]
      refine mst σ1 _ (RM_xo hM (zXo_tr oX o1)) (fun σ2 m2 o2 => ?_)
      rw [ef, bX6_look_59]
      refine ⟨fun _ => M_walk (d := 5) (c := c) m2 hI1 (by omega) hsp hp (fun z => absurd z qf) (fun _ σ3 m3 o3 => ?_), fun q => absurd rfl q⟩
      exact ⟨_, rfl, rfl, _, RX_mo m1 (zMo_tr o2 o3), m3, zI_wlk hI1 (by omega) hsp hp (fun z => qf (Or.inl z)) hfr⟩
  · have ef : zfn (sNo S c) s p = some k := e1
    obtain ⟨g0, g1, g2, g3, g4⟩ := zno hI (show c < 4 by omega) hk
    obtain ⟨i1, i2, i3⟩ := hI.1.2.2.2.2.1 c (by omega)
    have em : (zg (sNo S c) k zn0).1 = s ∧ (zg (sNo S c) k zn0).2.1 = p := by
      simp only [zmN, Bool.and_eq_true, decide_eq_true_eq] at e3
      exact e3
    have nk : (nI k = -nI 1) = False := nI_m (by omega) (by omega) (by omega)
    have x15 : σ0 15 (c * 4 + k) = zt (zg (sNo S c) k zn0).2.2.1 := ((mX.2.2.2.2.2.2.1 c (by omega)).2 k hk).2.2.1
    have wr := zt_w g3
    have nlt : (zt (zg (sNo S c) k zn0).2.2.1 < nI 256) = ¬ (768 ≤ (zg (sNo S c) k zn0).2.2.1) := by
      rw [← wr, Int32.lt_iff_toInt_lt, Int32.le_iff_toInt_le]
      exact propext ⟨fun a b => by omega, fun a => by omega⟩
    have l1 := zvE_lt g3
    have ec : zcode (some k) = nI k := rfl
    have ea : nI c * nI 4 + nI k = nI (c * 4 + k) := by rw [pk_mul, nI_add]
    have in1 : vp_in (nI (c * 4 + k)) 16 := by rw [vp_inE (by omega)]; omega
    have cl1 : (nI (c * 4 + k)).toNatClampNeg = c * 4 + k := nI_clamp (by omega)
    have e0 : nI 20 * nI c + nI 5 * nI k + nI 2 = nI (c * 20 + k * 5 + 2) := by rw [pk_mul, pk_mul, nI_add, zc20, zc5, nI_add]
    have in2 : vp_in (nI (c * 20 + k * 5 + 2)) 80 := by rw [vp_inE (by omega)]; omega
    have cl2 : (nI (c * 20 + k * 5 + 2)).toNatClampNeg = c * 20 + k * 5 + 2 := nI_clamp (by omega)
    rw [ef, ec]
    -- both go by the note
    have go : (v3 = nI 0 ∨ 768 ≤ (zg (sNo S c) k zn0).2.2.1) → zCall (zUn true) 7 yX5_goByNote [.ref 0, .int (nI c), .int (nI k)] σ0 (fun v σ' => eX5_look true 7 (fun v σ1 => zCall (zUn true) 8 yX6_look [.ref 28, .int (nI c), .int (nI p), .int v3] σ1 (fun v' σ2 => ∃ r, v = some (.int r) ∧ v' = some (.int r) ∧ Rel (n + 1) σ2)) 132 [.ref 0, .int (nI c), .int (nI p), .int v3, .int (nI s), .int (nI k)] (v.toList ++ []) σ') := by
      intro q
      refine X_go (d := 2) mX hI1 (by omega) hk (fun σ1 m1 o1 => ?_)
      simp only [z_toL, List.cons_append, List.nil_append]
      have e132 : ∀ (Q : zQ) (x : Int32), eX5_look true 7 Q 132 [.ref 0, .int (nI c), .int (nI p), .int v3, .int (nI s), .int (nI k)] [.int x] σ1 = Q (some (.int x)) σ1 := fun Q x => bX5_look_132 (d := 2)
      rw [e132]
      refine mst σ1 _ (RM_xo hM (zXo_tr oX o1)) (fun σ2 m2 o2 => ?_)
      have x37 : σ2 37 (c * 20 + k * 5 + 2) = nI (zg (sNo S c) k zn0).2.2.1 := ((m2.2.2.2.2.2.2.1 c (by omega)).2 k hk).2.2.1
      have fin : eX6_look 7 (fun v' σ2 => ∃ r, some (Value.int (nI (zef (zg (sNo (sInc 1 S) c) k zn0).2.2.1))) = some (.int r) ∧ v' = some (.int r) ∧ Rel (n + 1) σ2) 103 [.ref 28, .int (nI c), .int (nI p), .int v3, .int (nI s), .int (nI k), .null] [] σ2 := M_go (d := 5) m2 hI1 (by omega) hk (fun σ3 m3 o3 => ⟨_, rfl, rfl, _, RX_mo m1 (zMo_tr o2 o3), m3, zI_hit hI1⟩)
      rw [ef, ec, bX6_look_59]
      simp only [nk, false_implies, true_and, not_false_eq_true, true_implies, e0, in2, cl2, x37]
      refine ⟨fun _ => fin, fun q2 => ⟨fun _ => fin, fun q3 => ?_⟩⟩
      rw [nI_leE (by omega) (by omega)] at q3
      rcases q with q | q
      · exact absurd q q2
      · exact absurd q q3
    refine ⟨fun _ => ⟨fun q => ?_, fun q => ?_⟩, fun z => absurd z (by rw [nk]; exact id)⟩
    · exact go (Or.inl q)
    · rw [ea, cl1, x15, nlt]
      refine ⟨in1, fun q2 => ?_, fun q2 => go (Or.inr (Classical.not_not.mp q2))⟩
      refine X_forget (d := 4) (c := c) (p := nI p) mX.2.2.2.2.2.2.1 hI1.1.2.2.2.2.1 (by omega) hsp (fun σ1 o1 hN => ?_)
      have m1 : RX (sForg c s (nI p) (sInc 1 S)) σ1 := RX_forg mX o1 hN
      have hI2 : zI (n + 1) (sForg c s (nI p) (sInc 1 S)) := zI_forg hI1
      have xo1 : zXo σ0 σ1 := zXo_of o1 rfl
      have eno : sNo (sForg c s (nI p) (sInc 1 S)) c = zkeep s (nI p) (sNo S c) := va_up_self _ _ _
      have hfr : ∀ y ∈ sNo (sForg c s (nI p) (sInc 1 S)) c, ¬ (y.1 = s ∧ y.2.1 = p) := by
        rw [eno]
        intro y hy hq
        unfold zkeep at hy
        have := (List.mem_filter.mp hy).2
        simp [zmF, hq.1, hq.2] at this
      have hke : zkeep s (nI p) (sNo S c) = (sNo S c).eraseIdx k := by
        have := zkeep_at (sNo S c) k hk (fun n hn => (i2 n hn).2.1) i3
        rw [em.1, em.2] at this
        exact this
      have mdr : ∀ (σ2 : zV) (Q : zQ), RM (sInc 1 S) σ2 → (∀ σ3, RM (sForg c s (nI p) (sInc 1 S)) σ3 → zMo σ2 σ3 → eX6_look 7 Q 103 [.ref 28, .int (nI c), .int (nI p), .int v3, .int (nI s), .int (-nI 1), .null] [] σ3) → eX6_look 7 Q 59 [.ref 28, .int (nI c), .int (nI p), .int v3, .int (nI s), .null, .null] [.int (nI k)] σ2 := by
        intro σ2 Q m2 hq
        have x37 : σ2 37 (c * 20 + k * 5 + 2) = nI (zg (sNo S c) k zn0).2.2.1 := ((m2.2.2.2.2.2.2.1 c (by omega)).2 k hk).2.2.1
        rw [bX6_look_59]
        simp only [nk, false_implies, true_and, not_false_eq_true, true_implies, e0, in2, cl2, x37]
        refine ⟨fun z => absurd z q, fun _ => ⟨fun z => ?_, fun _ => ?_⟩⟩
        · rw [nI_leE (by omega) (by omega)] at z
          exact absurd z q2
        · refine M_drop (d := 6) (c := c) m2.2.2.2.2.2.2.1 (fun c' hc' => (hI1.1.2.2.2.2.1 c' hc').1) (by omega) hk (fun σ3 o3 hN3 => ?_)
          rw [hno, ← hke] at hN3
          simp only [z_toN, List.nil_append]
          rw [bX6_look_100]
          exact hq σ3 (RM_forg m2 o3 hN3) (zMo_of o3 rfl)
      simp only [z_toL, List.cons_append, List.nil_append]
      rw [bX5_look_114]
      refine X_walk (d := 2) (c := c) m1 hI2 (by omega) hsp hp (fun qf σ4 m4 o4 => ?_) (fun qf σ4 m4 o4 => ?_)
      · simp only [z_toL, List.cons_append, List.nil_append]
        rw [bX5_look_124]
        refine mst σ4 _ (RM_xo hM (zXo_tr oX (zXo_tr xo1 o4))) (fun σ2 m2 o2 => ?_)
        rw [ef, ec]
        refine mdr σ2 _ m2 (fun σ3 m3 o3 => M_walk (d := 5) (c := c) m3 hI2 (by omega) hsp hp (fun _ σ5 m5 o5 => ?_) (fun z => absurd qf z))
        exact ⟨_, rfl, rfl, _, RX_mo m4 (zMo_tr o2 (zMo_tr o3 o5)), m5, zI_flt hI2⟩
      · simp only [z_toL, List.cons_append, List.nil_append]
        rw [bX5_look_124]
        refine mst σ4 _ (RM_xo hM (zXo_tr oX (zXo_tr xo1 o4))) (fun σ2 m2 o2 => ?_)
        rw [ef, ec]
        refine mdr σ2 _ m2 (fun σ3 m3 o3 => M_walk (d := 5) (c := c) m3 hI2 (by omega) hsp hp (fun z => absurd z qf) (fun _ σ5 m5 o5 => ?_))
        exact ⟨_, rfl, rfl, _, RX_mo m4 (zMo_tr o2 (zMo_tr o3 o5)), m5, zI_wlk hI2 (by omega) hsp hp (fun z => qf (Or.inl z)) hfr⟩

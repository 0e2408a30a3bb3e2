/-! both sides: take, sleep, enter, rounds -/
/-- what both do as a core takes a call -/
def sTk (c : Nat) (S : zSt) : zSt := match sQu S c with
  | [] => S
  | k :: _ => sTake c k S
def zTk (c : Nat) (S : zSt) : Int32 := match sQu S c with
  | [] => -nI 1
  | k :: _ => nI k
theorem zI_tk {n c : Nat} {S : zSt} (h : zI n S) (hn : n < 2 ^ 30) (hc : c < 4) : zI n (sTk c S) := by
  unfold sTk
  cases hq : sQu S c with
  | nil => exact h
  | cons k t => exact zI_take h hn hc hq
theorem X_tk {b : Bool} {d : Nat} {Q : zQ} {S : zSt} {σ : zV} {c n : Nat} (h : RX S σ) (hI : zI n S) (hn : n < 2 ^ 30) (hc : c < 4) (hQ : ∀ σ', RX (sTk c S) σ' → zXo σ σ' → Q (some (.int (zTk c S))) σ') : zCall (zUn b) (d + 4) yX5_takeFirstCall [.ref 0, .int (nI c)] σ Q := by
  refine X_take h hI.1 hn hc (fun hq => ?_) (fun k t hq σ' m o => ?_)
  · have := hQ σ (by unfold sTk; rw [hq]; exact h) zXo_rf
    unfold zTk at this
    rw [hq] at this
    exact this
  · have := hQ σ' (by unfold sTk; rw [hq]; exact m) o
    unfold zTk at this
    rw [hq] at this
    exact this
theorem M_tk {d : Nat} {Q : zQ} {S : zSt} {σ : zV} {c n : Nat} (h : RM S σ) (hI : zI n S) (hc : c < 4) (hQ : ∀ σ', RM (sTk c S) σ' → zMo σ σ' → Q (some (.int (zTk c S))) σ') : zCall (zUn true) (d + 3) yX6_takeCall [.ref 28, .int (nI c)] σ Q := by
  refine M_take h hI.1 hc (fun hq => ?_) (fun k t hq σ' m o => ?_)
  · have := hQ σ (by unfold sTk; rw [hq]; exact h) zMo_rf
    unfold zTk at this
    rw [hq] at this
    exact this
  · have := hQ σ' (by unfold sTk; rw [hq]; exact m) o
    unfold zTk at this
    rw [hq] at this
    exact this
theorem J_take {n : Nat} {σ : zV} (h : Rel n σ) (hn : n < 2 ^ 20) (v1 : Int32) : zJ yX5_take yX6_take [.int v1] σ (n + 1) := by
  have h' := Rel_wk h (show n ≤ n + 1 by omega)
  obtain ⟨S, hX, hM, hI⟩ := h
  have hnc1 := hI.1.1.1
  have hnc := hI.1.1.2
  have k5 : σ 0 5 = nI (sNc S) := hX.1
  have k0 : σ 28 0 = nI (sNc S) := hM.1
  have k6 : σ 0 6 = sSc S 1 := hX.2.1.1
  have k1 : σ 28 1 = sSc S 1 := hM.2.1.1
  have hsub : nI (sNc S) - nI 1 = nI (sNc S - 1) := pk_sub (by omega)
  unfold zJ
  rcases ziy v1 (sNc S) (by omega) (by omega) with g | ⟨g1, g2, g3⟩ | ⟨c, hc, rfl, f1a, f1b, f1c⟩
  · rw [nX5_take, bX5_take_0]
    simp only [k5, g, Bool.true_eq_false, Bool.false_eq_true, true_implies, false_implies, not_true_eq_false, not_false_eq_true, true_and, and_true, eq_self, implies_true, z_toL, z_toN, List.cons_append, List.nil_append]
    rw [nX6_take, bX6_take_0]
    simp only [k0, hsub, g, Bool.true_eq_false, Bool.false_eq_true, true_implies, false_implies, not_true_eq_false, not_false_eq_true, true_and, and_true, eq_self, implies_true, z_toL, z_toN, List.cons_append, List.nil_append]
    exact ⟨_, rfl, rfl, h'⟩
  · rw [nX5_take, bX5_take_0]
    simp only [k5, g1, g2, Bool.true_eq_false, Bool.false_eq_true, true_implies, false_implies, not_true_eq_false, not_false_eq_true, true_and, and_true, eq_self, implies_true, z_toL, z_toN, List.cons_append, List.nil_append]
    rw [nX6_take, bX6_take_0]
    simp only [k0, hsub, g1, g3, Bool.true_eq_false, Bool.false_eq_true, true_implies, false_implies, not_true_eq_false, not_false_eq_true, true_and, and_true, eq_self, implies_true, z_toL, z_toN, List.cons_append, List.nil_append]
    exact ⟨_, rfl, rfl, h'⟩
  have hcut := True.intro
  have k8 : σ 8 c = zb (sAw S c) := (hX.2.2.2.2.1 c (by omega)).2
  have k35 : σ 35 c = zb (sAw S c) := (hM.2.2.2.2.1 c (by omega)).2
  rw [nX5_take, bX5_take_0]
  simp only [f1a, f1b, f1c, k5, Bool.true_eq_false, Bool.false_eq_true, true_implies, false_implies, not_true_eq_false, not_false_eq_true, true_and, and_true, eq_self, implies_true, z_toL, z_toN, List.cons_append, List.nil_append]
  simp (disch := omega) only [nI_clamp, vp_inE, k6, k8, zb_0, Bool.true_eq_false, Bool.false_eq_true, true_implies, false_implies, not_true_eq_false, not_false_eq_true, true_and, and_true, eq_self, implies_true, z_toL, z_toN, List.cons_append, List.nil_append]
  have hI1 : zI (n + 1) (sInc 1 S) := zI_time hI
  refine ⟨by omega, fun q => ?_, fun q => ?_⟩
  · have mX : RX (sInc 1 S) (zput σ 0 6 (sSc S 1 + nI 1)) := RX_set hX 1 (by omega) (by omega) _
    refine X_tk (d := 3) mX hI1 (by omega) (by omega) (fun σ1 m1 o1 => ?_)
    have hM1 := RM_xo hM (zXo_tr (zXo_put (by omega)) o1)
    have k1' : σ1 28 1 = sSc S 1 := hM1.2.1.1
    have k0' : σ1 28 0 = nI (sNc S) := hM1.1
    have k35' : σ1 35 c = zb (sAw S c) := (hM1.2.2.2.2.1 c (by omega)).2
    simp only [z_toL, List.cons_append, List.nil_append]
    rw [bX5_take_41, nX6_take, bX6_take_0]
    simp only [f1a, f1b, f1c, k0', hsub, Bool.true_eq_false, Bool.false_eq_true, true_implies, false_implies, not_true_eq_false, not_false_eq_true, true_and, and_true, eq_self, implies_true, z_toL, z_toN, List.cons_append, List.nil_append]
    simp (disch := omega) only [nI_clamp, vp_inE, k1', k35', q, zb_0, Bool.true_eq_false, Bool.false_eq_true, true_implies, false_implies, not_true_eq_false, not_false_eq_true, true_and, and_true, eq_self, implies_true, z_toL, z_toN, List.cons_append, List.nil_append]
    refine ⟨by omega, ?_⟩
    have mM : RM (sInc 1 S) (zput σ1 28 1 (sSc S 1 + nI 1)) := RM_set1 hM1 _
    refine M_tk (d := 4) mM hI1 (by omega) (fun σ2 m2 o2 => ?_)
    simp only [z_toL, List.cons_append, List.nil_append]
    rw [bX6_take_38]
    exact ⟨_, rfl, rfl, _, RX_mo m1 (zMo_tr (zMo_put (by omega)) o2), m2, zI_tk hI1 (by omega) (by omega)⟩
  · rw [nX6_take, bX6_take_0]
    simp only [f1a, f1b, f1c, k0, hsub, Bool.true_eq_false, Bool.false_eq_true, true_implies, false_implies, not_true_eq_false, not_false_eq_true, true_and, and_true, eq_self, implies_true, z_toL, z_toN, List.cons_append, List.nil_append]
    simp (disch := omega) only [nI_clamp, vp_inE, k35, q, zb_0, Bool.true_eq_false, Bool.false_eq_true, true_implies, false_implies, not_true_eq_false, not_false_eq_true, true_and, and_true, eq_self, implies_true, z_toL, z_toN, List.cons_append, List.nil_append]
    exact ⟨by omega, _, rfl, rfl, h'⟩
theorem zby {n : Nat} {S : zSt} (hI : zI n S) : ∀ r ∈ sSh S, r.1 < 4 := fun r hr => by
  have := (hI.1.2.2.2.2.2.2.1.2.1 r hr).1
  have := hI.1.1.2
  omega
theorem J_sleep {n : Nat} {σ : zV} (h : Rel n σ) (hn : n < 2 ^ 20) (v1 : Int32) : zJ yX5_sleep yX6_sleep [.int v1] σ (n + 1) := by
  have h' := Rel_wk h (show n ≤ n + 1 by omega)
  obtain ⟨S, hX, hM, hI⟩ := h
  have hnc1 := hI.1.1.1
  have hnc := hI.1.1.2
  have k5 : σ 0 5 = nI (sNc S) := hX.1
  have k0 : σ 28 0 = nI (sNc S) := hM.1
  have k6 : σ 0 6 = sSc S 1 := hX.2.1.1
  have k1 : σ 28 1 = sSc S 1 := hM.2.1.1
  have hsub : nI (sNc S) - nI 1 = nI (sNc S - 1) := pk_sub (by omega)
  unfold zJ
  rcases ziy v1 (sNc S) (by omega) (by omega) with g | ⟨g1, g2, g3⟩ | ⟨c, hc, rfl, f1a, f1b, f1c⟩
  · rw [nX5_sleep, bX5_sleep_0]
    simp only [k5, g, Bool.true_eq_false, Bool.false_eq_true, true_implies, false_implies, not_true_eq_false, not_false_eq_true, true_and, and_true, eq_self, implies_true, z_toL, z_toN, List.cons_append, List.nil_append]
    rw [nX6_sleep, bX6_sleep_0]
    simp only [k0, hsub, g, Bool.true_eq_false, Bool.false_eq_true, true_implies, false_implies, not_true_eq_false, not_false_eq_true, true_and, and_true, eq_self, implies_true, z_toL, z_toN, List.cons_append, List.nil_append]
    exact ⟨_, rfl, rfl, h'⟩
  · rw [nX5_sleep, bX5_sleep_0]
    simp only [k5, g1, g2, Bool.true_eq_false, Bool.false_eq_true, true_implies, false_implies, not_true_eq_false, not_false_eq_true, true_and, and_true, eq_self, implies_true, z_toL, z_toN, List.cons_append, List.nil_append]
    rw [nX6_sleep, bX6_sleep_0]
    simp only [k0, hsub, g1, g3, Bool.true_eq_false, Bool.false_eq_true, true_implies, false_implies, not_true_eq_false, not_false_eq_true, true_and, and_true, eq_self, implies_true, z_toL, z_toN, List.cons_append, List.nil_append]
    exact ⟨_, rfl, rfl, h'⟩
  have hcut := True.intro
  have k8 : σ 8 c = zb (sAw S c) := (hX.2.2.2.2.1 c (by omega)).2
  have k9 : σ 9 c = zund (sSh S) c := hX.2.2.2.2.2.2.2.2.2 c (by omega)
  have k35 : σ 35 c = zb (sAw S c) := (hM.2.2.2.2.1 c (by omega)).2
  have hS40 := hI.1.2.2.2.2.2.2.1.1
  rw [nX5_sleep, bX5_sleep_0]
  simp only [f1a, f1b, f1c, k5, Bool.true_eq_false, Bool.false_eq_true, true_implies, false_implies, not_true_eq_false, not_false_eq_true, true_and, and_true, eq_self, implies_true, z_toL, z_toN, List.cons_append, List.nil_append]
  simp (disch := omega) only [nI_clamp, vp_inE, k6, k8, k9, zb_0, Bool.true_eq_false, Bool.false_eq_true, true_implies, false_implies, not_true_eq_false, not_false_eq_true, true_and, and_true, eq_self, implies_true, z_toL, z_toN, List.cons_append, List.nil_append]
  have hI1 : zI (n + 1) (sInc 1 S) := zI_time hI
  refine ⟨by omega, fun q => ?_, fun q => ⟨by omega, fun q2 => ?_, fun q2 => ?_⟩⟩
  · rw [nX6_sleep, bX6_sleep_0]
    simp only [f1a, f1b, f1c, k0, hsub, Bool.true_eq_false, Bool.false_eq_true, true_implies, false_implies, not_true_eq_false, not_false_eq_true, true_and, and_true, eq_self, implies_true, z_toL, z_toN, List.cons_append, List.nil_append]
    simp (disch := omega) only [nI_clamp, vp_inE, k35, q, zb_0, Bool.true_eq_false, Bool.false_eq_true, true_implies, false_implies, not_true_eq_false, not_false_eq_true, true_and, and_true, eq_self, implies_true, z_toL, z_toN, List.cons_append, List.nil_append]
    exact ⟨by omega, _, rfl, rfl, h'⟩
  · rw [nX6_sleep, bX6_sleep_0]
    simp only [f1a, f1b, f1c, k0, hsub, Bool.true_eq_false, Bool.false_eq_true, true_implies, false_implies, not_true_eq_false, not_false_eq_true, true_and, and_true, eq_self, implies_true, z_toL, z_toN, List.cons_append, List.nil_append]
    simp (disch := omega) only [nI_clamp, vp_inE, k35, q, zb_0, Bool.true_eq_false, Bool.false_eq_true, true_implies, false_implies, not_true_eq_false, not_false_eq_true, true_and, and_true, eq_self, implies_true, z_toL, z_toN, List.cons_append, List.nil_append]
    refine ⟨by omega, M_und (d := 6) hM.2.2.2.2.2.2.2.2 hS40 (zby hI) (by omega) ?_⟩
    simp only [z_toL, List.cons_append, List.nil_append]
    rw [bX6_sleep_25]
    exact ⟨fun z => absurd z q2, fun _ => ⟨_, rfl, rfl, h'⟩⟩
  · have mX : RX (sInc 1 S) (zput σ 0 6 (sSc S 1 + nI 1)) := RX_set hX 1 (by omega) (by omega) _
    refine X_takeAll (d := 2) mX hI1 (by omega) (by omega) (fun σ1 m1 o1 => ?_)
    have hM1 := RM_xo hM (zXo_tr (zXo_put (by omega)) (zXo_tr o1 (zXo_put (a := 8) (k := c) (x := nI 0) (by omega))))
    have k1' := hM1.2.1.1
    have k0' := hM1.1
    have k35' := (hM1.2.2.2.2.1 c (by omega)).2
    have m3 : RX (sAwk c false (sTakeN (sQu (sInc 1 S) c).length c (sInc 1 S))) (zput σ1 8 c (nI 0)) := RX_awk (c := c) (a := false) m1
    simp only [z_toL, List.cons_append, List.nil_append]
    rw [bX5_sleep_37]
    simp (disch := omega) only [nI_clamp, vp_inE, z_vn0]
    refine ⟨by omega, ?_⟩
    generalize zput σ1 8 c (nI 0) = σ3 at hM1 k1' k0' k35' m3
    have k0' : σ3 28 0 = nI (sNc S) := k0'
    rw [nX6_sleep, bX6_sleep_0]
    simp only [f1a, f1b, f1c, k0', hsub, Bool.true_eq_false, Bool.false_eq_true, true_implies, false_implies, not_true_eq_false, not_false_eq_true, true_and, and_true, eq_self, implies_true, z_toL, z_toN, List.cons_append, List.nil_append]
    simp (disch := omega) only [nI_clamp, vp_inE, k35', q, zb_0, Bool.true_eq_false, Bool.false_eq_true, true_implies, false_implies, not_true_eq_false, not_false_eq_true, true_and, and_true, eq_self, implies_true, z_toL, z_toN, List.cons_append, List.nil_append]
    refine ⟨by omega, M_und (d := 6) hM1.2.2.2.2.2.2.2.2 hS40 (zby hI) (by omega) ?_⟩
    simp only [z_toL, List.cons_append, List.nil_append]
    rw [bX6_sleep_25]
    refine ⟨fun _ => ?_, fun z => absurd q2 z⟩
    rw [k1']
    have mM : RM (sInc 1 S) (zput σ3 28 1 (sSc S 1 + nI 1)) := RM_set1 hM1 _
    refine M_takeAll (d := 3) mM hI1 (by omega) (by omega) (fun σ4 m4 o4 => ?_)
    simp only [z_toL, List.cons_append, List.nil_append]
    rw [bX6_sleep_47]
    simp (disch := omega) only [nI_clamp, vp_inE, z_vn0]
    refine ⟨by omega, _, rfl, rfl, _, RX_mo m3 (zMo_tr (zMo_put (by omega)) (zMo_tr o4 (zMo_put (by omega)))), RM_awk (a := false) m4, zI_takeN (m := n + 1) (by omega) (by omega) _ hI1⟩
theorem sTakeN_keep {c : Nat} : ∀ (n : Nat) (S : zSt), sNc (sTakeN n c S) = sNc S ∧ sSp (sTakeN n c S) = sSp S := by
  intro n
  induction n with
  | zero => intro S; exact ⟨rfl, rfl⟩
  | succ n ih =>
    intro S
    cases hq : sQu S c with
    | nil => simp only [sTakeN, hq]; exact ⟨trivial, trivial⟩
    | cons k t => simp only [sTakeN, hq]; exact ih (sTake c k S)
theorem J_enter {n : Nat} {σ : zV} (h : Rel n σ) (hn : n < 2 ^ 20) (v1 v2 : Int32) : zJ yX5_enter yX6_enter [.int v1, .int v2] σ (n + 1) := by
  have h' := Rel_wk h (show n ≤ n + 1 by omega)
  obtain ⟨S, hX, hM, hI⟩ := h
  have hnc1 := hI.1.1.1
  have hnc := hI.1.1.2
  have k5 : σ 0 5 = nI (sNc S) := hX.1
  have k0 : σ 28 0 = nI (sNc S) := hM.1
  have k6 : σ 0 6 = sSc S 1 := hX.2.1.1
  have k1 : σ 28 1 = sSc S 1 := hM.2.1.1
  have hsub : nI (sNc S) - nI 1 = nI (sNc S - 1) := pk_sub (by omega)
  unfold zJ
  rcases ziy v1 (sNc S) (by omega) (by omega) with g | ⟨g1, g2, g3⟩ | ⟨c, hc, rfl, f1a, f1b, f1c⟩
  · rw [nX5_enter, bX5_enter_0]
    simp only [k5, g, Bool.true_eq_false, Bool.false_eq_true, true_implies, false_implies, not_true_eq_false, not_false_eq_true, true_and, and_true, eq_self, implies_true, z_toL, z_toN, List.cons_append, List.nil_append]
    rw [nX6_enter, bX6_enter_0]
    simp only [k0, hsub, g, Bool.true_eq_false, Bool.false_eq_true, true_implies, false_implies, not_true_eq_false, not_false_eq_true, true_and, and_true, eq_self, implies_true, z_toL, z_toN, List.cons_append, List.nil_append]
    exact ⟨_, rfl, rfl, h'⟩
  · rw [nX5_enter, bX5_enter_0]
    simp only [k5, g1, g2, Bool.true_eq_false, Bool.false_eq_true, true_implies, false_implies, not_true_eq_false, not_false_eq_true, true_and, and_true, eq_self, implies_true, z_toL, z_toN, List.cons_append, List.nil_append]
    rw [nX6_enter, bX6_enter_0]
    simp only [k0, hsub, g1, g3, Bool.true_eq_false, Bool.false_eq_true, true_implies, false_implies, not_true_eq_false, not_false_eq_true, true_and, and_true, eq_self, implies_true, z_toL, z_toN, List.cons_append, List.nil_append]
    exact ⟨_, rfl, rfl, h'⟩
  rcases ziy v2 3 (by omega) (by omega) with g | ⟨g1, g2, g3⟩ | ⟨s, hs, rfl, f2a, f2b, f2c⟩
  · rw [nX5_enter, bX5_enter_0]
    simp only [f1a, f1b, f1c, k5, g, Bool.true_eq_false, Bool.false_eq_true, true_implies, false_implies, not_true_eq_false, not_false_eq_true, true_and, and_true, eq_self, implies_true, z_toL, z_toN, List.cons_append, List.nil_append]
    rw [nX6_enter, bX6_enter_0]
    simp only [f1a, f1b, f1c, k0, hsub, g, Bool.true_eq_false, Bool.false_eq_true, true_implies, false_implies, not_true_eq_false, not_false_eq_true, true_and, and_true, eq_self, implies_true, z_toL, z_toN, List.cons_append, List.nil_append]
    exact ⟨_, rfl, rfl, h'⟩
  · rw [nX5_enter, bX5_enter_0]
    simp only [f1a, f1b, f1c, k5, g1, g2, Bool.true_eq_false, Bool.false_eq_true, true_implies, false_implies, not_true_eq_false, not_false_eq_true, true_and, and_true, eq_self, implies_true, z_toL, z_toN, List.cons_append, List.nil_append]
    rw [nX6_enter, bX6_enter_0]
    simp only [f1a, f1b, f1c, k0, hsub, g1, g3, Bool.true_eq_false, Bool.false_eq_true, true_implies, false_implies, not_true_eq_false, not_false_eq_true, true_and, and_true, eq_self, implies_true, z_toL, z_toN, List.cons_append, List.nil_append]
    exact ⟨_, rfl, rfl, h'⟩
  have hcut := True.intro
  have k7 : σ 7 c = nI (sSp S c) := (hX.2.2.2.2.1 c (by omega)).1
  have k8 : σ 8 c = zb (sAw S c) := (hX.2.2.2.2.1 c (by omega)).2
  have k9 : σ 9 c = zund (sSh S) c := hX.2.2.2.2.2.2.2.2.2 c (by omega)
  have k34 : σ 34 c = nI (sSp S c) := (hM.2.2.2.2.1 c (by omega)).1
  have k35 : σ 35 c = zb (sAw S c) := (hM.2.2.2.2.1 c (by omega)).2
  have hS40 := hI.1.2.2.2.2.2.2.1.1
  have hsp := hI.1.2.2.2.1 c (by omega)
  have hI1 : zI (n + 1) (sInc 1 S) := zI_time hI
  rw [nX5_enter, bX5_enter_0]
  simp only [f1a, f1b, f1c, f2a, f2b, f2c, k5, Bool.true_eq_false, Bool.false_eq_true, true_implies, false_implies, not_true_eq_false, not_false_eq_true, true_and, and_true, eq_self, implies_true, z_toL, z_toN, List.cons_append, List.nil_append]
  simp (disch := omega) only [nI_clamp, vp_inE, nI_eqE, k6, k7, k8, k9, zb_0, Bool.true_eq_false, Bool.false_eq_true, true_implies, false_implies, not_true_eq_false, not_false_eq_true, true_and, and_true, eq_self, implies_true, z_toL, z_toN, List.cons_append, List.nil_append]
  refine ⟨by omega, fun q => ?_, fun q => ⟨by omega, fun q2 => ?_, fun q2 => ⟨by omega, fun q3 => ?_, fun q3 => ?_⟩⟩⟩
  · rw [nX6_enter, bX6_enter_0]
    simp only [f1a, f1b, f1c, f2a, f2b, f2c, k0, hsub, Bool.true_eq_false, Bool.false_eq_true, true_implies, false_implies, not_true_eq_false, not_false_eq_true, true_and, and_true, eq_self, implies_true, z_toL, z_toN, List.cons_append, List.nil_append]
    simp (disch := omega) only [nI_clamp, vp_inE, k35, q, zb_0, Bool.true_eq_false, Bool.false_eq_true, true_implies, false_implies, not_true_eq_false, not_false_eq_true, true_and, and_true, eq_self, implies_true, z_toL, z_toN, List.cons_append, List.nil_append]
    exact ⟨by omega, _, rfl, rfl, h'⟩
  · rw [nX6_enter, bX6_enter_0]
    simp only [f1a, f1b, f1c, f2a, f2b, f2c, k0, hsub, Bool.true_eq_false, Bool.false_eq_true, true_implies, false_implies, not_true_eq_false, not_false_eq_true, true_and, and_true, eq_self, implies_true, z_toL, z_toN, List.cons_append, List.nil_append]
    simp (disch := omega) only [nI_clamp, vp_inE, k35, q, zb_0, Bool.true_eq_false, Bool.false_eq_true, true_implies, false_implies, not_true_eq_false, not_false_eq_true, true_and, and_true, eq_self, implies_true, z_toL, z_toN, List.cons_append, List.nil_append]
    refine ⟨by omega, M_und (d := 6) hM.2.2.2.2.2.2.2.2 hS40 (zby hI) (by omega) ?_⟩
    simp only [z_toL, List.cons_append, List.nil_append]
    rw [bX6_enter_34]
    exact ⟨fun _ => ⟨_, rfl, rfl, h'⟩, fun z => absurd z q2⟩
  · have mX : RX (sInc 1 S) (zput σ 0 6 (sSc S 1 + nI 1)) := RX_set hX 1 (by omega) (by omega) _
    refine X_takeAll (d := 2) mX hI1 (by omega) (by omega) (fun σ1 m1 o1 => ?_)
    have m2 := RX_spa (c := c) (s := s) m1
    have hI2 : zI (n + 1) (sSpa c s (sTakeN (sQu (sInc 1 S) c).length c (sInc 1 S))) := by
      have h2 := zI_takeN (m := n + 1) (c := c) (by omega) (by omega) (sQu (sInc 1 S) c).length hI1
      exact ⟨zInv_spa h2.1 hs, h2.2⟩
    simp only [z_toL, List.cons_append, List.nil_append]
    rw [bX5_enter_57]
    simp (disch := omega) only [nI_clamp, vp_inE]
    refine ⟨by omega, X_cau (d := 3) m2 hI2 (by omega) (fun σ2 m3 o2 => ?_)⟩
    have hM1 := RM_xo hM (zXo_tr (zXo_put (by omega)) (zXo_tr o1 (zXo_tr (zXo_put (by omega)) o2)))
    have k1' := hM1.2.1.1
    have k0' : σ2 28 0 = nI (sNc S) := hM1.1
    have k34' := (hM1.2.2.2.2.1 c (by omega)).1
    have k35' := (hM1.2.2.2.2.1 c (by omega)).2
    simp only [z_toL, List.cons_append, List.nil_append]
    rw [bX5_enter_73, nX6_enter, bX6_enter_0]
    simp only [f1a, f1b, f1c, f2a, f2b, f2c, k0', hsub, Bool.true_eq_false, Bool.false_eq_true, true_implies, false_implies, not_true_eq_false, not_false_eq_true, true_and, and_true, eq_self, implies_true, z_toL, z_toN, List.cons_append, List.nil_append]
    simp (disch := omega) only [nI_clamp, vp_inE, k35', q, zb_0, Bool.true_eq_false, Bool.false_eq_true, true_implies, false_implies, not_true_eq_false, not_false_eq_true, true_and, and_true, eq_self, implies_true, z_toL, z_toN, List.cons_append, List.nil_append]
    refine ⟨by omega, M_und (d := 6) hM1.2.2.2.2.2.2.2.2 hS40 (zby hI) (by omega) ?_⟩
    simp only [z_toL, List.cons_append, List.nil_append]
    rw [bX6_enter_34]
    simp (disch := omega) only [nI_clamp, vp_inE, nI_eqE, k34', k1', q2, q3, Bool.true_eq_false, Bool.false_eq_true, true_implies, false_implies, not_true_eq_false, not_false_eq_true, true_and, and_true, eq_self, implies_true, z_toL, z_toN, List.cons_append, List.nil_append]
    refine ⟨by omega, ?_⟩
    have mM : RM (sInc 1 S) (zput σ2 28 1 (sSc S 1 + nI 1)) := RM_set1 hM1 _
    refine M_takeAll (d := 3) mM hI1 (by omega) (by omega) (fun σ4 m4 o4 => ?_)
    simp only [z_toL, List.cons_append, List.nil_append]
    rw [bX6_enter_66]
    simp (disch := omega) only [nI_clamp, vp_inE]
    refine ⟨by omega, M_cau (d := 4) (RM_spa (c := c) (s := s) m4) hI2 (by omega) (fun σ5 m5 o5 => ?_)⟩
    simp only [z_toL, List.cons_append, List.nil_append]
    rw [bX6_enter_79]
    exact ⟨_, rfl, rfl, _, RX_mo m3 (zMo_tr (zMo_put (by omega)) (zMo_tr o4 (zMo_tr (zMo_put (by omega)) o5))), m5, zI_cau hI2 (by omega)⟩
  · rw [nX6_enter, bX6_enter_0]
    simp only [f1a, f1b, f1c, f2a, f2b, f2c, k0, hsub, Bool.true_eq_false, Bool.false_eq_true, true_implies, false_implies, not_true_eq_false, not_false_eq_true, true_and, and_true, eq_self, implies_true, z_toL, z_toN, List.cons_append, List.nil_append]
    simp (disch := omega) only [nI_clamp, vp_inE, k35, q, zb_0, Bool.true_eq_false, Bool.false_eq_true, true_implies, false_implies, not_true_eq_false, not_false_eq_true, true_and, and_true, eq_self, implies_true, z_toL, z_toN, List.cons_append, List.nil_append]
    refine ⟨by omega, M_und (d := 6) hM.2.2.2.2.2.2.2.2 hS40 (zby hI) (by omega) ?_⟩
    simp only [z_toL, List.cons_append, List.nil_append]
    rw [bX6_enter_34]
    simp (disch := omega) only [nI_clamp, vp_inE, nI_eqE, k34, q2, q3, Bool.true_eq_false, Bool.false_eq_true, true_implies, false_implies, not_true_eq_false, not_false_eq_true, true_and, and_true, eq_self, implies_true, z_toL, z_toN, List.cons_append, List.nil_append]
    exact ⟨by omega, _, rfl, rfl, h'⟩

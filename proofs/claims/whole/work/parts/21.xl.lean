/-! the class: the others are called -/
def zqj (cal : Nat → Bool) (qu : Nat → List Nat) (k j : Nat) : Nat → List Nat := fun d => if (decide (d < j) && cal d) = true then qu d ++ [k] else qu d
def zwj (cal : Nat → Bool) (j : Nat) : Nat → Bool := fun d => decide (d < j) && cal d
theorem zltS {d j : Nat} (h : ¬ d = j) : decide (d < j + 1) = decide (d < j) := decide_eq_decide.mpr ⟨fun q => by omega, fun q => by omega⟩
theorem zqj_no {cal : Nat → Bool} {qu : Nat → List Nat} {k j : Nat} (h : cal j = false) : zqj cal qu k (j + 1) = zqj cal qu k j := by
  funext d
  unfold zqj
  by_cases e : d = j
  · subst e; rw [h]; simp
  · rw [zltS e]
theorem zqj_yes {cal : Nat → Bool} {qu : Nat → List Nat} {k j : Nat} (h : cal j = true) : zqj cal qu k (j + 1) = va_up (zqj cal qu k j) j (zqj cal qu k j j ++ [k]) := by
  funext d
  unfold va_up
  by_cases e : d = j
  · subst e; rw [if_pos rfl]; unfold zqj; rw [h]; simp
  · rw [if_neg e]
    unfold zqj
    rw [zltS e]
theorem zqj_at {cal : Nat → Bool} {qu : Nat → List Nat} {k j : Nat} : zqj cal qu k j j = qu j := by unfold zqj; simp
theorem zwj_n {cal : Nat → Bool} {j : Nat} (h : cal j = false) : zwj cal (j + 1) = zwj cal j := by
  funext d
  unfold zwj
  by_cases e : d = j
  · subst e; rw [h]; simp
  · rw [zltS e]
theorem zwj_y {cal : Nat → Bool} {j : Nat} (h : cal j = true) : zwj cal (j + 1) = va_up (zwj cal j) j true := by
  funext d
  unfold va_up
  by_cases e : d = j
  · subst e; unfold zwj; rw [h]; simp
  · rw [if_neg e]
    unfold zwj
    rw [zltS e]
theorem zqj_len {cal : Nat → Bool} {qu : Nat → List Nat} {k j n : Nat} (h : ∀ c, c < 4 → (qu c).length ≤ n) (hn : n < 40) : ∀ c, c < 4 → (zqj cal qu k j c).length ≤ 40 := by
  intro c hc
  have := h c hc
  unfold zqj
  split
  · rw [List.length_append]; simp only [List.length_singleton]; omega
  · omega
theorem X_begin_step {b : Bool} {d : Nat} {Q : zQ} {nc : Nat} {sc : Nat → Int32} {gen : Nat → Nat} {hi : Nat → List (Nat × Int32)} {sp : Nat → Nat} {aw : Nat → Bool} {fg : Nat → Nat} {no : Nat → List zNote} {qu : Nat → List Nat} {sh : List zSh} {cal : Nat → Bool} {σ : zV} {c s g j : Nat} {p t : Int32} (hnc : nc ≤ 4) (hj : j < nc) (hc : c < nc) (hs : s < 3) (hl : sh.length < 40) (hsp : sp j < 3) (hq : ∀ c, c < 4 → (qu c).length ≤ sh.length)
    (hcal : cal j = (decide (j ≠ c) && aw j && decide (sp j = s)))
    (h : RY (zMk nc sc gen hi sp aw fg no (zqj cal qu sh.length j) (sh ++ [(c, s, p, g, t, -nI 1, zwj cal j)])) σ)
    (hQ : ∀ σ', RY (zMk nc sc gen hi sp aw fg no (zqj cal qu sh.length (j + 1)) (sh ++ [(c, s, p, g, t, -nI 1, zwj cal (j + 1))])) σ' → zoff [18, 19, 27] σ σ' → eX5_beginShoot b (d + 3) Q 83 [.ref 0, .int (nI c), .int (nI s), .int p, .int (nI sh.length), .int (nI (j + 1))] [] σ') : eX5_beginShoot b (d + 3) Q 83 [.ref 0, .int (nI c), .int (nI s), .int p, .int (nI sh.length), .int (nI j)] [] σ := by
  obtain ⟨r1, r2, r3, r4, r5, r6, r7, r8, r9⟩ := RY_un h
  have k5 : σ 0 5 = nI nc := r1
  have k7 : σ 7 j = nI (sp j) := (r5 j (by omega)).1
  have k8 : σ 8 j = zb (aw j) := (r5 j (by omega)).2
  have hno : cal j = false → eX5_beginShoot b (d + 3) Q 83 [.ref 0, .int (nI c), .int (nI s), .int p, .int (nI sh.length), .int (nI (j + 1))] [] σ := by
    intro e
    refine hQ σ ?_ zoff_rf
    rw [zqj_no e, zwj_n e]
    exact h
  rw [bX5_beginShoot_83]
  simp (disch := omega) only [nI_add, pk_mul, pk_sub, nI_clamp, nI_ltE, nI_leE, nI_eqE, nI_m, nI_m', nI_lt0, vp_inE, Nat.not_lt_zero, zc3, zc4, zc5, zc16, zc20, zc40, true_implies, false_implies, not_true_eq_false, not_false_eq_true, true_and, and_true, eq_self, implies_true, z_toL, z_toN, List.cons_append, List.nil_append, k5, k7, k8]
  refine ⟨fun q => absurd q (by omega), fun _ => ⟨fun q => hno (by rw [hcal]; simp [q]), fun q => ⟨by omega, fun q2 => hno ?_, fun q2 => ⟨by omega, fun q3 => hno (by rw [hcal]; simp [q3]), fun q3 => ?_⟩⟩⟩⟩
  · rw [hcal]
    cases ea : aw j
    · simp
    · rw [ea] at q2; exact absurd q2 (by decide)
  · have e : cal j = true := by
      rw [hcal]
      cases ea : aw j
      · rw [ea] at q2; exact absurd (by decide) q2
      · rw [decide_eq_true q, decide_eq_true q3]; rfl
    have hqj := hq j (by omega)
    refine X_append (S := zMk nc sc gen hi sp aw fg no (zqj cal qu sh.length j) (sh ++ [(c, s, p, g, t, -nI 1, zwj cal j)])) h (by omega) (zqj_len hq hl) ?_ (fun σ1 m1 o1 => ?_)
    · show (zqj cal qu sh.length j j).length < 40
      rw [zqj_at]; omega
    · simp only [z_toN, List.nil_append]
      obtain ⟨y1, y2, y3, y4, y5, y6, y7, y8, y9⟩ := RY_un m1
      have gg := y9.2 sh.length (by show sh.length < (sh ++ [_]).length; simp)
      have gg : XSr (zg (sh ++ [(c, s, p, g, t, -nI 1, zwj cal j)]) sh.length zs0) sh.length σ1 := gg
      rw [zg_last] at gg
      have g7 : σ1 27 sh.length = nI (zmask (zwj cal j)) := gg.2.2.2.2.2.2
      rw [bX5_beginShoot_122]
      simp (disch := omega) only [nI_add, pk_mul, pk_sub, nI_clamp, nI_ltE, nI_leE, nI_eqE, nI_m, nI_m', nI_lt0, vp_inE, Nat.not_lt_zero, zc3, zc4, zc5, zc16, zc20, zc40, true_implies, false_implies, not_true_eq_false, not_false_eq_true, true_and, and_true, eq_self, implies_true, z_toL, z_toN, List.cons_append, List.nil_append, g7, zmask_on (show j < 4 by omega)]
      refine ⟨by omega, by omega, ?_⟩
      have y9' := XS_bit (w := va_up (zwj cal j) j true) (r := (c, s, p, g, t, -nI 1, zwj cal j)) y9 rfl
      have o : zoff [27] σ1 (zput σ1 27 sh.length (nI (zmask (va_up (zwj cal j) j true)))) := zoff_put (by simp)
      refine hQ _ ?_ (zoff_tr (zoff_wk o1 (by simp)) (zoff_put (by simp)))
      rw [zqj_yes e, zwj_y e]
      exact RY_mk (XC_c (o 0 (by simp)) y1) (XT_c (o 0 (by simp)) y2) (XG_c (o 2 (by simp)) y3) (XH_c (o 3 (by simp)) (o 4 (by simp)) (o 5 (by simp)) y4) (XK_c (o 7 (by simp)) (o 8 (by simp)) y5) (XF_c (o 10 (by simp)) y6) (XN_c (o 12 (by simp)) (o 13 (by simp)) (o 14 (by simp)) (o 15 (by simp)) (o 16 (by simp)) y7) (XQ_c (o 18 (by simp)) (o 19 (by simp)) y8) y9'
theorem X_begin_loop {b : Bool} {d : Nat} {Q : zQ} {nc : Nat} {sc : Nat → Int32} {gen : Nat → Nat} {hi : Nat → List (Nat × Int32)} {sp : Nat → Nat} {aw : Nat → Bool} {fg : Nat → Nat} {no : Nat → List zNote} {qu : Nat → List Nat} {sh : List zSh} {cal : Nat → Bool} {σ0 : zV} {c s g tm : Nat} {p : Int32} (hnc : nc ≤ 4) (hc : c < nc) (hs : s < 3) (hl : sh.length < 40) (hsp : ∀ c, c < 4 → sp c < 3) (hq : ∀ c, c < 4 → (qu c).length ≤ sh.length) (hf : zund sh c = -nI 1) (ht : tm < 2 ^ 31) (hte : sc 1 = nI tm) (hU : XU sh σ0)
    (hcal : ∀ j, cal j = (decide (j < nc) && (decide (j ≠ c) && aw j && decide (sp j = s))))
    (hQ : ∀ σ', RX (zMk nc sc gen hi sp aw fg no (fun d => if cal d = true then qu d ++ [sh.length] else qu d) (sh ++ [(c, s, p, g, sc 1, if zmask cal = 0 then sc 1 else -nI 1, cal)])) σ' → zXo σ0 σ' → Q (some (.int (nI sh.length))) σ') :
    ∀ (n j : Nat) (σ : zV), n + j = nc → RY (zMk nc sc gen hi sp aw fg no (zqj cal qu sh.length j) (sh ++ [(c, s, p, g, sc 1, -nI 1, zwj cal j)])) σ → σ 9 = σ0 9 → zXo σ0 σ → eX5_beginShoot b (d + 3) Q 83 [.ref 0, .int (nI c), .int (nI s), .int p, .int (nI sh.length), .int (nI j)] [] σ := by
  intro n
  induction n with
  | zero =>
    intro j σ hj h h9 ho
    have hj : j = nc := by omega
    subst hj
    have e1 : zwj cal j = cal := by
      funext d
      unfold zwj
      by_cases e : d < j
      · rw [decide_eq_true e]; simp
      · rw [hcal d, decide_eq_false e]; simp
    have e2 : zqj cal qu sh.length j = fun d => if cal d = true then qu d ++ [sh.length] else qu d := by
      funext d
      show (if zwj cal j d = true then _ else _) = _
      rw [e1]
    rw [e1, e2] at h
    exact X_begin_end hnc hc hl hf ht hte (XU_c h9 hU) h (fun σ' m o => hQ σ' m (zXo_tr ho o))
  | succ n ih =>
    intro j σ hj h h9 ho
    refine X_begin_step hnc (by omega) hc hs hl (hsp j (by omega)) hq (by rw [hcal j, decide_eq_true (by omega : j < nc)]; simp) h (fun σ' m o => ih (j + 1) σ' (by omega) m ?_ (zXo_tr ho (zXo_of o rfl)))
    rw [o 9 (by simp), h9]
theorem zcal_eq {S : zSt} {c s j : Nat} : zcal S c s j = (decide (j < sNc S) && (decide (j ≠ c) && sAw S j && decide (sSp S j = s))) := by
  unfold zcal
  cases decide (j < sNc S) <;> simp
theorem X_begin {b : Bool} {d : Nat} {Q : zQ} {S : zSt} {σ : zV} {c s m : Nat} {p : Int32} (h : RX S σ) (hI : zI m S) (hm : m < 2 ^ 30) (hc : c < sNc S) (hs : s < 3) (hl : (sSh S).length < 40) (hf : zund (sSh S) c = -nI 1)
    (hQ : ∀ σ', RX (sBeg c s p S) σ' → zXo σ σ' → Q (some (.int (nI (sSh S).length))) σ') : zCall (zUn b) (d + 4) yX5_beginShoot [.ref 0, .int (nI c), .int (nI s), .int p] σ Q := by
  have hnc := hI.1.1.2
  obtain ⟨tm, ht1, ht2⟩ := hI.1.2.1
  have hsp := hI.1.2.2.2.1
  have hq2 := zIQ_len2 hI.1.2.2.2.2.2.1
  have hg40 := zInv_g hI.1 s hs
  have hf40 := zInv_f hI.1 c s (by omega) hs
  have hfg := hI.1.2.2.2.2.2.2.2.2 c s (by omega) hs
  have hfa := zInv_f hI.1
  have h' := h
  obtain ⟨r1, r2, r3, r4, r5, r6, r7, r8, r9, r10⟩ := h'
  have k2 := r3 s hs
  have k10 := r6 (c * 3 + s) (by omega)
  have main : ∀ (p' : Int32) (σ1 : zV) (x : Int32), p' = (if sFg S (c * 3 + s) < sGen S s then -nI 1 else p) → RX (sForg c s p' S) σ1 → zXo σ σ1 → eX5_beginShoot b (d + 3) Q 23 [.ref 0, .int (nI c), .int (nI s), .int p, .null, .null] [.int x] σ1 := by
    intro p' σ1 x hp' m1 o1
    have k2 : σ1 2 s = nI (sGen S s) := m1.2.2.1 s hs
    rw [bX5_beginShoot_23]
    simp (disch := omega) only [nI_add, pk_mul, pk_sub, nI_clamp, nI_ltE, nI_leE, nI_eqE, nI_m, nI_m', nI_lt0, vp_inE, Nat.not_lt_zero, zc3, zc4, zc5, zc16, zc20, zc40, true_implies, false_implies, not_true_eq_false, not_false_eq_true, true_and, and_true, eq_self, implies_true, z_toL, z_toN, List.cons_append, List.nil_append, zput_ne, zput_in, k2, if_true]
    have m2 : RX (sGup s (sForg c s p' S)) (zput σ1 2 s (nI (sGen S s + 1))) := RX_gup m1
    refine ⟨hs, hs, hs, X_raise m2 (by omega) hs (by omega) hfa (fun σ3 m3 o3 => ?_)⟩
    simp only [z_toN, List.nil_append]
    obtain ⟨t1, t2, t3, t4, t5, t6, t7, t8, t9, t10⟩ := m3
    have k2 : σ3 2 s = nI (sGen S s + 1) := by
      have := t3 s hs
      have e : va_up (sGen S) s (sGen S s + 1) s = sGen S s + 1 := va_up_self _ _ _
      rw [← e]
      exact this
    have k6 : σ3 0 6 = sSc S 1 := t2.1
    have t9 : XS (sSh S) σ3 := t9
    have k20 : σ3 20 0 = nI (sSh S).length := t9.1
    rw [bX5_beginShoot_55]
    simp (disch := omega) only [nI_add, pk_mul, pk_sub, nI_clamp, nI_ltE, nI_leE, nI_eqE, nI_m, nI_m', nI_lt0, vp_inE, Nat.not_lt_zero, zc3, zc4, zc5, zc16, zc20, zc40, true_implies, false_implies, not_true_eq_false, not_false_eq_true, true_and, and_true, eq_self, implies_true, z_toL, z_toN, List.cons_append, List.nil_append, k2, k6]
    refine ⟨hs, ?_⟩
    rw [sX3_begin]
    simp (disch := omega) only [nI_add, pk_mul, pk_sub, nI_clamp, nI_ltE, nI_leE, nI_eqE, nI_m, nI_m', nI_lt0, vp_inE, Nat.not_lt_zero, zc3, zc4, zc5, zc16, zc20, zc40, true_implies, false_implies, not_true_eq_false, not_false_eq_true, true_and, and_true, eq_self, implies_true, z_toL, z_toN, List.cons_append, List.nil_append, zput_ne, zput_in, k20]
    refine ⟨hl, hl, hl, hl, hl, hl, hl, ?_⟩
    rw [bX5_beginShoot_78]
    have hz0 : zwj (zcal S c s) 0 = fun _ => false := by funext d; unfold zwj; simp
    have hq0 : zqj (zcal S c s) (sQu S) (sSh S).length 0 = sQu S := by funext d; unfold zqj; simp
    have n9 := XS_new (r := (c, s, p, sGen S s + 1, sSc S 1, -nI 1, zwj (zcal S c s) 0)) (x6 := -nI 1) (x7 := nI 0) t9 hl rfl (by rw [hz0]; rfl)
    generalize hσ4 : zput (zput (zput (zput (zput (zput (zput (zput σ3 21 _ _) 22 _ _) 23 _ _) 24 _ _) 25 _ _) 26 _ _) 27 _ _) 20 0 _ = σ4
    have n9 : XS (sSh S ++ [(c, s, p, sGen S s + 1, sSc S 1, -nI 1, zwj (zcal S c s) 0)]) σ4 := by rw [← hσ4]; exact n9
    have o : zoff [20, 21, 22, 23, 24, 25, 26, 27] σ3 σ4 := by
      rw [← hσ4]
      exact zoff_tr (zoff_tr (zoff_tr (zoff_tr (zoff_tr (zoff_tr (zoff_tr (zoff_put (by simp)) (zoff_put (by simp))) (zoff_put (by simp))) (zoff_put (by simp))) (zoff_put (by simp))) (zoff_put (by simp))) (zoff_put (by simp))) (zoff_put (by simp))
    have efg : sFg (sRai c s (sGen S s + 1) (sGup s (sForg c s p' S))) = va_up (sFg S) (c * 3 + s) (sGen S s + 1) := by
      show va_up (sFg S) (c * 3 + s) (if sFg S (c * 3 + s) < sGen S s + 1 then sGen S s + 1 else sFg S (c * 3 + s)) = _
      rw [if_pos (by omega)]
    have ho : zXo σ σ4 := zXo_tr o1 (zXo_tr (zXo_put (by omega)) (zXo_tr (zXo_of o3 rfl) (zXo_of o rfl)))
    have t6 : XF (va_up (sFg S) (c * 3 + s) (sGen S s + 1)) σ3 := by rw [← efg]; exact t6
    refine X_begin_loop (nc := sNc S) (sc := sSc S) (gen := va_up (sGen S) s (sGen S s + 1)) (hi := sHi S) (sp := sSp S) (aw := sAw S) (fg := va_up (sFg S) (c * 3 + s) (sGen S s + 1)) (no := va_up (sNo S) c (zkeep s p' (sNo S c))) (qu := sQu S) (sh := sSh S) (cal := zcal S c s) (σ0 := σ4) (g := sGen S s + 1) hnc hc hs hl hsp hq2 hf (by omega) ht2 ?_ (fun j => zcal_eq) (fun σ' m o => hQ σ' ?_ (zXo_tr ho o)) (sNc S) 0 σ4 (by omega) ?_ rfl zXo_rf
    · exact XU_c (o 9 (by simp)) t10
    · rw [hp'] at m
      exact m
    · rw [hq0]
      exact RY_mk (XC_c (o 0 (by simp)) t1) (XT_c (o 0 (by simp)) t2) (XG_c (o 2 (by simp)) t3) (XH_c (o 3 (by simp)) (o 4 (by simp)) (o 5 (by simp)) t4) (XK_c (o 7 (by simp)) (o 8 (by simp)) t5) (XF_c (o 10 (by simp)) t6) (XN_c (o 12 (by simp)) (o 13 (by simp)) (o 14 (by simp)) (o 15 (by simp)) (o 16 (by simp)) t7) (XQ_c (o 18 (by simp)) (o 19 (by simp)) t8) n9
  rw [nX5_beginShoot, bX5_beginShoot_0]
  simp (disch := omega) only [nI_add, pk_mul, pk_sub, nI_clamp, nI_ltE, nI_leE, nI_eqE, nI_m, nI_m', nI_lt0, vp_inE, Nat.not_lt_zero, zc3, zc4, zc5, zc16, zc20, zc40, true_implies, false_implies, not_true_eq_false, not_false_eq_true, true_and, and_true, eq_self, implies_true, z_toL, z_toN, List.cons_append, List.nil_append, k2, k10]
  refine ⟨by omega, hs, fun q => ?_, fun q => ?_⟩
  · refine X_forget r7 hI.1.2.2.2.2.1 (by omega) hs (fun σ1 o1 m1 => ?_)
    simp only [z_toL, List.cons_append, List.nil_append]
    exact main p σ1 _ (by rw [if_neg (by omega)]) (RX_forg h o1 m1) (zXo_of o1 rfl)
  · refine X_forget r7 hI.1.2.2.2.2.1 (by omega) hs (fun σ1 o1 m1 => ?_)
    simp only [z_toL, List.cons_append, List.nil_append]
    exact main (-nI 1) σ1 _ (by rw [if_pos (by omega)]) (RX_forg h o1 m1) (zXo_of o1 rfl)

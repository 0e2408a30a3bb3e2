/-! the model: a call taken, all calls, catching up -/
theorem z_vn0 : vp_nar .boolean (nI 0) = nI 0 := by decide +kernel
theorem z_vn1 : vp_nar .boolean (nI 1) = nI 1 := by decide +kernel
theorem z_vnb {x : Bool} : vp_nar .boolean (zb x) = zb x := by cases x; exact z_vn0; exact z_vn1
theorem M_take_loop {d : Nat} {Q : zQ} {σ : zV} {c k len : Nat} (hc : c < 4) (hk : k < 40) (h1 : 1 ≤ len) (hl : len ≤ 40) (h38 : σ 38 c = nI len)
    (hQ : ∀ σ', zoff [28, 38, 39] σ σ' → (∀ i, σ' 28 i = if i = 28 then σ 28 28 + nI 1 else σ 28 i) → (∀ i, σ' 38 i = if i = c then nI (len - 1) else σ 38 i) → (∀ j, σ' 39 j = if c * 40 ≤ j ∧ j + 1 < c * 40 + len then σ 39 (j + 1) else σ 39 j) → zCall (zUn true) (d + 2) yX6_forget [.ref 28, .int (nI c), .int (σ' 42 k), .int (σ' 43 k)] σ' (fun v σ' => eX6_takeCall (d + 2) Q 100 [.ref 28, .int (nI c), .int (nI k), .int (nI len), .null] (v.toList ++ []) σ')) :
    ∀ n i σ', n + i = len → 1 ≤ i → zoff [39] σ σ' → (∀ j, σ' 39 j = if c * 40 ≤ j ∧ j + 1 < c * 40 + i then σ 39 (j + 1) else σ 39 j) → eX6_takeCall (d + 2) Q 23 [.ref 28, .int (nI c), .int (nI k), .int (nI i), .null] [] σ' := by
  intro n
  induction n with
  | zero =>
    intro i σ' hi hi1 o h39
    have hi : i = len := by omega
    subst hi
    have g38 : σ' 38 c = nI i := by rw [o 38 (by simp)]; exact h38
    have g28 : σ' 28 28 = σ 28 28 := by rw [o 28 (by simp)]
    rw [bX6_takeCall_23]
    simp (disch := omega) only [nI_add, pk_mul, pk_sub, nI_clamp, nI_ltE, nI_leE, nI_eqE, nI_m, nI_m', nI_lt0, vp_inE, Nat.not_lt_zero, zc3, zc4, zc5, zc16, zc20, zc40, true_implies, false_implies, not_true_eq_false, not_false_eq_true, true_and, and_true, eq_self, implies_true, z_toL, z_toN, List.cons_append, List.nil_append, g38, Nat.le_refl]
    refine ⟨hc, hc, hc, hk, hk, ?_⟩
    refine hQ _ ?_ ?_ ?_ ?_
    · exact zoff_tr (zoff_wk o (by simp)) (zoff_tr (zoff_put (by simp)) (zoff_put (by simp)))
    · intro j
      rw [zput_in, zput_ne (by decide), o 28 (by simp)]
    · intro j
      rw [zput_ne (by decide), zput_in, o 38 (by simp)]
    · intro j
      rw [zput_ne (by decide), zput_ne (by decide), h39]
  | succ n ih =>
    intro i σ' hi hi1 o h39
    have g38 : σ' 38 c = nI len := by rw [o 38 (by simp)]; exact h38
    rw [bX6_takeCall_23]
    simp (disch := omega) only [nI_add, pk_mul, pk_sub, nI_clamp, nI_ltE, nI_leE, nI_eqE, nI_m, nI_m', nI_lt0, vp_inE, Nat.not_lt_zero, zc3, zc4, zc5, zc16, zc20, zc40, true_implies, false_implies, not_true_eq_false, not_false_eq_true, true_and, and_true, eq_self, implies_true, z_toL, z_toN, List.cons_append, List.nil_append, g38]
    refine ⟨hc, fun q => absurd q (by omega), fun _ => ⟨by omega, by omega, ?_⟩⟩
    refine ih (i + 1) _ (by omega) (by omega) (zoff_tr o (zoff_put (by simp))) (fun j => ?_)
    rw [zput_in]
    by_cases e1 : j = c * 40 + i - 1
    · rw [if_pos e1, if_pos (by omega), h39, if_neg (by omega)]
      congr 1; omega
    · rw [if_neg e1, h39 j]
      by_cases e2 : c * 40 ≤ j ∧ j + 1 < c * 40 + i
      · rw [if_pos e2, if_pos (by omega)]
      · rw [if_neg e2, if_neg (by omega)]
theorem M_tail {S : zSt} {σ σ' : zV} {c k : Nat} {t : List Nat} (h : RM S σ) (hc : c < 4) (hz : ∀ c, c < 4 → (sQu S c).length ≤ 40) (hq : sQu S c = k :: t) (o : zoff [28, 38, 39] σ σ') (h28 : ∀ i, σ' 28 i = if i = 28 then σ 28 28 + nI 1 else σ 28 i) (h38 : ∀ i, σ' 38 i = if i = c then nI ((sQu S c).length - 1) else σ 38 i) (h39 : ∀ j, σ' 39 j = if c * 40 ≤ j ∧ j + 1 < c * 40 + (sQu S c).length then σ 39 (j + 1) else σ 39 j) : RM (sInc 8 (sTail c S)) σ' := by
  obtain ⟨r1, r2, r3, r4, r5, r6, r7, r8, ⟨r9, r9'⟩⟩ := h
  obtain ⟨t1, t2, t3, t4, t5, t6, t7, t8, t9⟩ := r2
  refine ⟨?_, ?_, MG_c (o 30 (by simp)) r3, MH_c (o 31 (by simp)) (o 33 (by simp)) (o 32 (by simp)) (o 29 (by simp)) r4, MK_c (o 34 (by simp)) (o 35 (by simp)) r5, MF_c (o 40 (by simp)) r6, MN_c (o 36 (by simp)) (o 37 (by simp)) r7, fun c' hc' => ?_, ⟨?_, fun j hj => ?_⟩⟩
  · show σ' 28 0 = _
    rw [h28, if_neg (by decide)]
    exact r1
  · show σ' 28 1 = va_up (sSc S) 8 (sSc S 8 + nI 1) 1 ∧ σ' 28 3 = va_up (sSc S) 8 (sSc S 8 + nI 1) 2 ∧ σ' 28 2 = va_up (sSc S) 8 (sSc S 8 + nI 1) 3 ∧ σ' 28 24 = va_up (sSc S) 8 (sSc S 8 + nI 1) 4 ∧ σ' 28 25 = va_up (sSc S) 8 (sSc S 8 + nI 1) 5 ∧ σ' 28 26 = va_up (sSc S) 8 (sSc S 8 + nI 1) 6 ∧ σ' 28 27 = va_up (sSc S) 8 (sSc S 8 + nI 1) 7 ∧ σ' 28 28 = va_up (sSc S) 8 (sSc S 8 + nI 1) 8 ∧ σ' 28 29 = va_up (sSc S) 8 (sSc S 8 + nI 1) 9
    simp only [h28, va_up, ← t1, ← t2, ← t3, ← t4, ← t5, ← t6, ← t7, ← t8, ← t9]
    simp
  · show σ' 38 c' = nI (va_up (sQu S) c (sQu S c).tail c').length ∧ ∀ k', k' < (va_up (sQu S) c (sQu S c).tail c').length → σ' 39 (c' * 40 + k') = nI (zg (va_up (sQu S) c (sQu S c).tail c') k' 0)
    by_cases e : c' = c
    · subst e
      rw [va_up_self, h38, if_pos rfl, List.length_tail]
      refine ⟨rfl, fun k' hk' => ?_⟩
      rw [h39, if_pos (by omega), zg_tail (by omega)]
      exact (r8 c' hc').2 (k' + 1) (by omega)
    · rw [va_up_ne _ _ e, h38, if_neg e]
      refine ⟨(r8 c' hc').1, fun k' hk' => ?_⟩
      have := hz c' hc'
      have := hz c hc
      rw [h39, if_neg (by omega)]
      exact (r8 c' hc').2 k' hk'
  · rw [h28, if_neg (by decide)]
    exact r9
  · have := r9' j hj
    show MSr (zg (sSh S) j zs0) j σ'
    unfold MSr at *
    rw [o 41 (by simp), o 42 (by simp), o 43 (by simp), o 44 (by simp), o 45 (by simp), o 46 (by simp), o 47 (by simp)]
    exact this
theorem RM_sh {S : zSt} {σ σ' : zV} {sh : List zSh} (h : RM S σ) (o : zoff [46, 47] σ σ') (hS : MS sh σ') : RM (zMk (sNc S) (sSc S) (sGen S) (sHi S) (sSp S) (sAw S) (sFg S) (sNo S) (sQu S) sh) σ' := by
  obtain ⟨r1, r2, r3, r4, r5, r6, r7, r8, r9⟩ := h
  exact ⟨MC_c (o 28 (by simp)) r1, MT_c (o 28 (by simp)) r2, MG_c (o 30 (by simp)) r3, MH_c (o 31 (by simp)) (o 33 (by simp)) (o 32 (by simp)) (o 29 (by simp)) r4, MK_c (o 34 (by simp)) (o 35 (by simp)) r5, MF_c (o 40 (by simp)) r6, MN_c (o 36 (by simp)) (o 37 (by simp)) r7, MQu_c (o 38 (by simp)) (o 39 (by simp)) r8, hS⟩
theorem M_take {d : Nat} {Q : zQ} {S : zSt} {σ : zV} {c n : Nat} (h : RM S σ) (hI : zInv n S) (hc : c < 4) (h0 : sQu S c = [] → Q (some (.int (-nI 1))) σ)
    (h1 : ∀ k t, sQu S c = k :: t → ∀ σ', RM (sTake c k S) σ' → zMo σ σ' → Q (some (.int (nI k))) σ') : zCall (zUn true) (d + 3) yX6_takeCall [.ref 28, .int (nI c)] σ Q := by
  have h' := h
  obtain ⟨r1, r2, r3, r4, r5, r6, r7, r8, r9⟩ := h'
  obtain ⟨g1, g2⟩ := r8 c hc
  have hz := zInv_q hI
  have hzc := hz c hc
  rw [nX6_takeCall, bX6_takeCall_0]
  cases hq : sQu S c with
  | nil =>
    rw [hq] at g1
    simp (disch := omega) only [nI_add, pk_mul, pk_sub, nI_clamp, nI_ltE, nI_leE, nI_eqE, nI_m, nI_m', nI_lt0, vp_inE, Nat.not_lt_zero, zc3, zc4, zc5, zc16, zc20, zc40, true_implies, false_implies, not_true_eq_false, not_false_eq_true, true_and, and_true, eq_self, implies_true, z_toL, z_toN, List.cons_append, List.nil_append, g1, List.length_nil]
    exact ⟨hc, h0 hq⟩
  | cons k t =>
    have hk : k < (sSh S).length := (hI.2.2.2.2.2.1 c hc).2.1 k (by rw [hq]; simp)
    have hsl := hI.2.2.2.2.2.2.1.1
    have hw : (zg (sSh S) k zs0).2.2.2.2.2.2 c = true := (((hI.2.2.2.2.2.1 c hc).2.2 k hk).1).mpr (by rw [hq]; simp)
    obtain ⟨q1, q2, q3, q4, q5⟩ := hI.2.2.2.2.2.2.1.2.1 _ (zg_mem (x := zs0) hk)
    have hdn : (zg (sSh S) k zs0).2.2.2.2.2.1 = -nI 1 := q5.mpr ⟨c, hc, hw⟩
    have hfc := zInv_f hI c _ hc q2
    have hlen : (sQu S c).length = t.length + 1 := by rw [hq]; rfl
    have gk := g2 0 (by omega)
    rw [Nat.add_zero, show zg (sQu S c) 0 0 = k from by rw [hq]; exact zg_of rfl] at gk
    have hIt : zIN (sNo S) := hI.2.2.2.2.1
    simp (disch := omega) only [nI_add, pk_mul, pk_sub, nI_clamp, nI_ltE, nI_leE, nI_eqE, nI_m, nI_m', nI_lt0, vp_inE, Nat.not_lt_zero, zc3, zc4, zc5, zc16, zc20, zc40, true_implies, false_implies, not_true_eq_false, not_false_eq_true, true_and, and_true, eq_self, implies_true, z_toL, z_toN, List.cons_append, List.nil_append, g1, gk]
    refine ⟨hc, fun _ => ⟨by omega, ?_⟩, fun q => absurd q (by omega)⟩
    refine M_take_loop (len := (sQu S c).length) hc (by omega) (by omega) hzc g1 (fun σ1 o1 e28 e38 e39 => ?_) ((sQu S c).length - 1) 1 σ (by omega) (Nat.le_refl _) zoff_rf (fun j => by rw [if_neg (by omega)])
    have m1 := M_tail h hc hz hq o1 e28 e38 e39
    have m1' := m1
    obtain ⟨-, -, -, -, -, -, rN, -, ⟨-, rS⟩⟩ := m1'
    obtain ⟨y1, y2, y3, y4, y5, y6, y7⟩ : MSr (zg (sSh S) k zs0) k σ1 := rS k hk
    rw [y2, y3]
    refine M_forget rN hIt hc q2 (fun σ2 o2 m2 => ?_)
    have m2 := RM_forg m1 o2 m2
    simp only [z_toL, List.cons_append, List.nil_append]
    have m2' := m2
    obtain ⟨-, rT, -, -, -, rF, -, -, rS2⟩ := m2'
    obtain ⟨y1, y2, y3, y4, y5, y6, y7⟩ : MSr (zg (sSh S) k zs0) k σ2 := rS2.2 k hk
    have k40 : σ2 40 (c * 3 + (zg (sSh S) k zs0).2.1) = nI (sFg S (c * 3 + (zg (sSh S) k zs0).2.1)) := rF _ (by omega)
    have k1 : σ2 28 1 = sSc S 1 := rT.1
    -- behind the generation's raise
    have fin : ∀ x : Int32, x = nI (if sFg S (c * 3 + (zg (sSh S) k zs0).2.1) < (zg (sSh S) k zs0).2.2.2.1 then (zg (sSh S) k zs0).2.2.2.1 else sFg S (c * 3 + (zg (sSh S) k zs0).2.1)) → ∀ (v3 v4 : Int32), zCall (zUn true) (d + 2) yX6_settle [.ref 28, .int (nI k)] (zput (zput σ2 40 (c * 3 + (zg (sSh S) k zs0).2.1) x) 47 (k * 4 + c) (nI 0)) (fun v σ' => eX6_takeCall (d + 2) Q 168 [.ref 28, .int (nI c), .int (nI k), .int v3, .int v4] (v.toList ++ []) σ') := by
      intro x hx v3 v4
      have m3 := RM_rai (c := c) (s := (zg (sSh S) k zs0).2.1) (g := (zg (sSh S) k zs0).2.2.2.1) m2 hx
      have m3' := m3
      obtain ⟨-, -, -, -, -, -, -, -, rS3⟩ := m3'
      have rS3 : MS (sSh S) (zput σ2 40 (c * 3 + (zg (sSh S) k zs0).2.1) x) := rS3
      obtain ⟨y1, y2, y3, y4, y5, y6, y7⟩ := rS3.2 k hk
      have oo : zMo σ σ2 := zMo_tr (zMo_of o1 rfl) (zMo_of o2 rfl)
      refine M_settle (w := va_up (zg (sSh S) k zs0).2.2.2.2.2.2 c false) (by omega) (fun c' hc' => ?_) (fun hm => ?_) (fun hm => ⟨?_, ?_⟩)
      · rw [zput_in]
        unfold va_up
        by_cases e : c' = c
        · subst e; rw [if_pos rfl, if_pos rfl]; rfl
        · rw [if_neg (by omega), if_neg e]; exact y7 c' hc'
      · simp only [z_toN, List.nil_append]
        rw [bX6_takeCall_168]
        have w := MS_wait (t := sSc S 1) (σ' := zput (zput σ2 40 (c * 3 + (zg (sSh S) k zs0).2.1) x) 47 (k * 4 + c) (nI 0)) rS3 hk hc (zoff_put (by simp)) (fun i => by rw [zput_in]) (fun i => by
          rw [zput_ne (by decide)]
          split
          · rename_i e
            subst e
            show _ = if zmask _ = 0 then _ else _
            rw [if_neg hm]
            exact y6
          · rfl)
        exact h1 k t hq _ (RM_sh m3 (zoff_put (by simp)) w) (zMo_tr oo (zMo_tr (zMo_put (by omega)) (zMo_put (by omega))))
      · rw [zput_ne (by decide)]
        exact y6.trans hdn
      · simp only [z_toN, List.nil_append]
        rw [bX6_takeCall_168]
        have k1' : zput (zput σ2 40 (c * 3 + (zg (sSh S) k zs0).2.1) x) 47 (k * 4 + c) (nI 0) 28 1 = sSc S 1 := by rw [zput_ne (by decide), zput_ne (by decide)]; exact k1
        rw [k1']
        have w := MS_wait (t := sSc S 1) (σ' := zput (zput (zput σ2 40 (c * 3 + (zg (sSh S) k zs0).2.1) x) 47 (k * 4 + c) (nI 0)) 46 k (sSc S 1)) rS3 hk hc (zoff_tr (zoff_put (by simp)) (zoff_put (by simp))) (fun i => by rw [zput_ne (by decide), zput_in]) (fun i => by
          rw [zput_in, zput_ne (by decide)]
          split
          · show _ = if zmask _ = 0 then _ else _
            rw [if_pos hm]
          · rfl)
        exact h1 k t hq _ (RM_sh m3 (zoff_tr (zoff_put (by simp)) (zoff_put (by simp))) w) (zMo_tr oo (zMo_tr (zMo_put (by omega)) (zMo_tr (zMo_put (by omega)) (zMo_put (by omega)))))
    rw [bX6_takeCall_100]
    simp (disch := omega) only [nI_add, pk_mul, pk_sub, nI_clamp, nI_ltE, nI_leE, nI_eqE, nI_m, nI_m', nI_lt0, vp_inE, Nat.not_lt_zero, zc3, zc4, zc5, zc16, zc20, zc40, true_implies, false_implies, not_true_eq_false, not_false_eq_true, true_and, and_true, eq_self, implies_true, z_toL, z_toN, List.cons_append, List.nil_append, y2, y4, k40, z_vn0]
    refine ⟨by omega, by omega, by omega, fun q => ⟨by omega, by omega, by omega, fin _ (by rw [if_neg (by omega)]) _ _⟩, fun q => ⟨by omega, by omega, by omega, fin _ (by rw [if_pos (by omega)]) _ _⟩⟩

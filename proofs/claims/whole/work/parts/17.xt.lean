/-! the class: the state's steps -/
def zXo (σ σ' : zV) : Prop := ∀ k, 28 ≤ k → σ' k = σ k
theorem zXo_rf {σ : zV} : zXo σ σ := fun _ _ => rfl
theorem zXo_tr {σ σ1 σ2 : zV} (h : zXo σ σ1) (g : zXo σ1 σ2) : zXo σ σ2 := fun k hk => (g k hk).trans (h k hk)
theorem zXo_of {L : List Nat} {σ σ1 : zV} (h : zoff L σ σ1) (hL : L.all (fun k => decide (k < 28)) = true) : zXo σ σ1 := fun k hk => h k (fun q => by
  have := List.all_eq_true.mp hL k q
  simp only [decide_eq_true_eq] at this
  omega)
theorem zXo_put {σ : zV} {a k : Nat} {x : Int32} (h : a < 28) : zXo σ (zput σ a k x) := fun b hb => zput_off b (by omega)
theorem XC_c {nc : Nat} {σ σ' : zV} (h0 : σ' 0 = σ 0) (h : XC nc σ) : XC nc σ' := by unfold XC at *; rw [h0]; exact h
theorem XT_c {sc : Nat → Int32} {σ σ' : zV} (h0 : σ' 0 = σ 0) (h : XT sc σ) : XT sc σ' := by unfold XT at *; rw [h0]; exact h
theorem XG_c {gen : Nat → Nat} {σ σ' : zV} (h0 : σ' 2 = σ 2) (h : XG gen σ) : XG gen σ' := by unfold XG at *; rw [h0]; exact h
theorem XH_c {hi : Nat → List (Nat × Int32)} {σ σ' : zV} (h0 : σ' 3 = σ 3) (h1 : σ' 4 = σ 4) (h2 : σ' 5 = σ 5) (h : XH hi σ) : XH hi σ' := by unfold XH XHr at *; rw [h0, h1, h2]; exact h
theorem XK_c {sp : Nat → Nat} {aw : Nat → Bool} {σ σ' : zV} (h0 : σ' 7 = σ 7) (h1 : σ' 8 = σ 8) (h : XK sp aw σ) : XK sp aw σ' := by unfold XK at *; rw [h0, h1]; exact h
theorem XF_c {fg : Nat → Nat} {σ σ' : zV} (h0 : σ' 10 = σ 10) (h : XF fg σ) : XF fg σ' := by unfold XF at *; rw [h0]; exact h
theorem XN_c {no : Nat → List zNote} {σ σ' : zV} (h0 : σ' 12 = σ 12) (h1 : σ' 13 = σ 13) (h2 : σ' 14 = σ 14) (h3 : σ' 15 = σ 15) (h4 : σ' 16 = σ 16) (h : XN no σ) : XN no σ' := by unfold XN XR at *; rw [h0, h1, h2, h3, h4]; exact h
theorem XQ_c {qu : Nat → List Nat} {σ σ' : zV} (h0 : σ' 18 = σ 18) (h1 : σ' 19 = σ 19) (h : XQ qu σ) : XQ qu σ' := by unfold XQ at *; rw [h0, h1]; exact h
theorem XS_c {sh : List zSh} {σ σ' : zV} (h0 : σ' 20 = σ 20) (h1 : σ' 21 = σ 21) (h2 : σ' 22 = σ 22) (h3 : σ' 23 = σ 23) (h4 : σ' 24 = σ 24) (h5 : σ' 25 = σ 25) (h6 : σ' 26 = σ 26) (h7 : σ' 27 = σ 27) (h : XS sh σ) : XS sh σ' := by unfold XS XSr at *; rw [h0, h1, h2, h3, h4, h5, h6, h7]; exact h
theorem XU_c {sh : List zSh} {σ σ' : zV} (h0 : σ' 9 = σ 9) (h : XU sh σ) : XU sh σ' := by unfold XU at *; rw [h0]; exact h
theorem RX_set {S : zSt} {σ : zV} (h : RX S σ) (i : Nat) (h1 : 1 ≤ i) (h9 : i ≤ 9) (v : Int32) : RX (sSet i v S) (zput σ 0 (i + 5) v) := by
  obtain ⟨r1, r2, r3, r4, r5, r6, r7, r8, r9, r10⟩ := h
  have o : zoff [0] σ (zput σ 0 (i + 5) v) := zoff_put (by simp)
  refine ⟨?_, ?_, XG_c (o 2 (by simp)) r3, XH_c (o 3 (by simp)) (o 4 (by simp)) (o 5 (by simp)) r4, XK_c (o 7 (by simp)) (o 8 (by simp)) r5, XF_c (o 10 (by simp)) r6, XN_c (o 12 (by simp)) (o 13 (by simp)) (o 14 (by simp)) (o 15 (by simp)) (o 16 (by simp)) r7, XQ_c (o 18 (by simp)) (o 19 (by simp)) r8, XS_c (o 20 (by simp)) (o 21 (by simp)) (o 22 (by simp)) (o 23 (by simp)) (o 24 (by simp)) (o 25 (by simp)) (o 26 (by simp)) (o 27 (by simp)) r9, XU_c (o 9 (by simp)) r10⟩
  · show zput σ 0 (i + 5) v 0 5 = nI (sNc S)
    rw [zput_in' (by omega)]
    exact r1
  · obtain ⟨t1, t2, t3, t4, t5, t6, t7, t8, t9⟩ := r2
    show zput σ 0 (i + 5) v 0 6 = va_up (sSc S) i v 1 ∧ zput σ 0 (i + 5) v 0 7 = va_up (sSc S) i v 2 ∧ zput σ 0 (i + 5) v 0 8 = va_up (sSc S) i v 3 ∧ zput σ 0 (i + 5) v 0 9 = va_up (sSc S) i v 4 ∧ zput σ 0 (i + 5) v 0 10 = va_up (sSc S) i v 5 ∧ zput σ 0 (i + 5) v 0 11 = va_up (sSc S) i v 6 ∧ zput σ 0 (i + 5) v 0 12 = va_up (sSc S) i v 7 ∧ zput σ 0 (i + 5) v 0 13 = va_up (sSc S) i v 8 ∧ zput σ 0 (i + 5) v 0 14 = va_up (sSc S) i v 9
    simp only [zput_in, va_up, ← t1, ← t2, ← t3, ← t4, ← t5, ← t6, ← t7, ← t8, ← t9]
    have e : i = 1 ∨ i = 2 ∨ i = 3 ∨ i = 4 ∨ i = 5 ∨ i = 6 ∨ i = 7 ∨ i = 8 ∨ i = 9 := by omega
    rcases e with rfl | rfl | rfl | rfl | rfl | rfl | rfl | rfl | rfl <;> simp
theorem RX_forg {S : zSt} {σ σ' : zV} {c s : Nat} {p : Int32} (h : RX S σ) (o : zoff [12, 13, 14, 15, 16] σ σ') (hN : XN (va_up (sNo S) c (zkeep s p (sNo S c))) σ') : RX (sForg c s p S) σ' := by
  obtain ⟨r1, r2, r3, r4, r5, r6, r7, r8, r9, r10⟩ := h
  exact ⟨XC_c (o 0 (by simp)) r1, XT_c (o 0 (by simp)) r2, XG_c (o 2 (by simp)) r3, XH_c (o 3 (by simp)) (o 4 (by simp)) (o 5 (by simp)) r4, XK_c (o 7 (by simp)) (o 8 (by simp)) r5, XF_c (o 10 (by simp)) r6, hN, XQ_c (o 18 (by simp)) (o 19 (by simp)) r8, XS_c (o 20 (by simp)) (o 21 (by simp)) (o 22 (by simp)) (o 23 (by simp)) (o 24 (by simp)) (o 25 (by simp)) (o 26 (by simp)) (o 27 (by simp)) r9, XU_c (o 9 (by simp)) r10⟩
theorem RX_note {S : zSt} {σ σ' : zV} {c : Nat} {n : zNote} (h : RX S σ) (o : zoff [12, 13, 14, 15, 16] σ σ') (hN : XN (va_up (sNo S) c (zadd (sNo S c) n)) σ') : RX (sNote c n S) σ' := by
  obtain ⟨r1, r2, r3, r4, r5, r6, r7, r8, r9, r10⟩ := h
  exact ⟨XC_c (o 0 (by simp)) r1, XT_c (o 0 (by simp)) r2, XG_c (o 2 (by simp)) r3, XH_c (o 3 (by simp)) (o 4 (by simp)) (o 5 (by simp)) r4, XK_c (o 7 (by simp)) (o 8 (by simp)) r5, XF_c (o 10 (by simp)) r6, hN, XQ_c (o 18 (by simp)) (o 19 (by simp)) r8, XS_c (o 20 (by simp)) (o 21 (by simp)) (o 22 (by simp)) (o 23 (by simp)) (o 24 (by simp)) (o 25 (by simp)) (o 26 (by simp)) (o 27 (by simp)) r9, XU_c (o 9 (by simp)) r10⟩
theorem RX_hist {S : zSt} {σ σ' : zV} {p e : Nat} (h : RX S σ) (o : zoff [3, 4, 5] σ σ') (hH : XH (va_up (sHi S) p (zadh (sHi S p) (e, sSc S 1))) σ') : RX (sHist p e S) σ' := by
  obtain ⟨r1, r2, r3, r4, r5, r6, r7, r8, r9, r10⟩ := h
  exact ⟨XC_c (o 0 (by simp)) r1, XT_c (o 0 (by simp)) r2, XG_c (o 2 (by simp)) r3, hH, XK_c (o 7 (by simp)) (o 8 (by simp)) r5, XF_c (o 10 (by simp)) r6, XN_c (o 12 (by simp)) (o 13 (by simp)) (o 14 (by simp)) (o 15 (by simp)) (o 16 (by simp)) r7, XQ_c (o 18 (by simp)) (o 19 (by simp)) r8, XS_c (o 20 (by simp)) (o 21 (by simp)) (o 22 (by simp)) (o 23 (by simp)) (o 24 (by simp)) (o 25 (by simp)) (o 26 (by simp)) (o 27 (by simp)) r9, XU_c (o 9 (by simp)) r10⟩
theorem RX_spa {S : zSt} {σ : zV} {c s : Nat} (h : RX S σ) : RX (sSpa c s S) (zput σ 7 c (nI s)) := by
  obtain ⟨r1, r2, r3, r4, r5, r6, r7, r8, r9, r10⟩ := h
  have o : zoff [7] σ (zput σ 7 c (nI s)) := zoff_put (by simp)
  refine ⟨XC_c (o 0 (by simp)) r1, XT_c (o 0 (by simp)) r2, XG_c (o 2 (by simp)) r3, XH_c (o 3 (by simp)) (o 4 (by simp)) (o 5 (by simp)) r4, fun c' hc' => ?_, XF_c (o 10 (by simp)) r6, XN_c (o 12 (by simp)) (o 13 (by simp)) (o 14 (by simp)) (o 15 (by simp)) (o 16 (by simp)) r7, XQ_c (o 18 (by simp)) (o 19 (by simp)) r8, XS_c (o 20 (by simp)) (o 21 (by simp)) (o 22 (by simp)) (o 23 (by simp)) (o 24 (by simp)) (o 25 (by simp)) (o 26 (by simp)) (o 27 (by simp)) r9, XU_c (o 9 (by simp)) r10⟩
  show zput σ 7 c (nI s) 7 c' = nI (va_up (sSp S) c s c') ∧ zput σ 7 c (nI s) 8 c' = zb (sAw S c')
  rw [o 8 (by simp), zput_in]
  refine ⟨?_, (r5 c' hc').2⟩
  unfold va_up
  split
  · rfl
  · exact (r5 c' hc').1
theorem RX_awk {S : zSt} {σ : zV} {c : Nat} {a : Bool} (h : RX S σ) : RX (sAwk c a S) (zput σ 8 c (zb a)) := by
  obtain ⟨r1, r2, r3, r4, r5, r6, r7, r8, r9, r10⟩ := h
  have o : zoff [8] σ (zput σ 8 c (zb a)) := zoff_put (by simp)
  refine ⟨XC_c (o 0 (by simp)) r1, XT_c (o 0 (by simp)) r2, XG_c (o 2 (by simp)) r3, XH_c (o 3 (by simp)) (o 4 (by simp)) (o 5 (by simp)) r4, fun c' hc' => ?_, XF_c (o 10 (by simp)) r6, XN_c (o 12 (by simp)) (o 13 (by simp)) (o 14 (by simp)) (o 15 (by simp)) (o 16 (by simp)) r7, XQ_c (o 18 (by simp)) (o 19 (by simp)) r8, XS_c (o 20 (by simp)) (o 21 (by simp)) (o 22 (by simp)) (o 23 (by simp)) (o 24 (by simp)) (o 25 (by simp)) (o 26 (by simp)) (o 27 (by simp)) r9, XU_c (o 9 (by simp)) r10⟩
  show zput σ 8 c (zb a) 7 c' = nI (sSp S c') ∧ zput σ 8 c (zb a) 8 c' = zb (va_up (sAw S) c a c')
  rw [o 7 (by simp), zput_in]
  refine ⟨(r5 c' hc').1, ?_⟩
  unfold va_up
  split
  · rfl
  · exact (r5 c' hc').2
theorem X_raise {b : Bool} {d : Nat} {Q : zQ} {S : zSt} {σ : zV} {c s g : Nat} (h : RX S σ) (hc : c < 4) (hs : s < 3) (hg : g < 2 ^ 30) (hf : ∀ c s, c < 4 → s < 3 → sFg S (c * 3 + s) < 2 ^ 30)
    (hQ : ∀ σ', RX (sRai c s g S) σ' → zoff [10] σ σ' → Q none σ') : zCall (zUn b) (d + 1) yX0_raiseGeneration [.ref 6, .int (nI c), .int (nI s), .int (nI g)] σ Q := by
  obtain ⟨r1, r2, r3, r4, r5, r6, r7, r8, r9, r10⟩ := h
  have h10 := r6 (c * 3 + s) (by omega)
  have hfc := hf c s hc hs
  rw [sX0_raiseGeneration]
  simp (disch := omega) only [nI_add, pk_mul, pk_sub, nI_clamp, nI_ltE, nI_leE, nI_eqE, nI_m, nI_m', nI_lt0, vp_inE, zc3, zc4, zc5, zc16, zc20, zc40, true_implies, false_implies, not_true_eq_false, not_false_eq_true, true_and, and_true, eq_self, implies_true, z_toL, z_toN, List.cons_append, List.nil_append, h10]
  refine ⟨by omega, by omega, ?_⟩
  have o : ∀ v, zoff [10] σ (zput σ 10 (c * 3 + s) v) := fun v => zoff_put (by simp)
  refine hQ _ ⟨XC_c (o _ 0 (by simp)) r1, XT_c (o _ 0 (by simp)) r2, XG_c (o _ 2 (by simp)) r3, XH_c (o _ 3 (by simp)) (o _ 4 (by simp)) (o _ 5 (by simp)) r4, XK_c (o _ 7 (by simp)) (o _ 8 (by simp)) r5, fun i hi => ?_, XN_c (o _ 12 (by simp)) (o _ 13 (by simp)) (o _ 14 (by simp)) (o _ 15 (by simp)) (o _ 16 (by simp)) r7, XQ_c (o _ 18 (by simp)) (o _ 19 (by simp)) r8, XS_c (o _ 20 (by simp)) (o _ 21 (by simp)) (o _ 22 (by simp)) (o _ 23 (by simp)) (o _ 24 (by simp)) (o _ 25 (by simp)) (o _ 26 (by simp)) (o _ 27 (by simp)) r9, XU_c (o _ 9 (by simp)) r10⟩ (o _)
  show zput σ 10 (c * 3 + s) _ 10 i = nI (va_up (sFg S) (c * 3 + s) _ i)
  rw [zput_in]
  unfold va_up
  by_cases e : i = c * 3 + s
  · rw [if_pos e, if_pos e]
    split <;> rfl
  · rw [if_neg e, if_neg e]
    exact r6 i hi
theorem X_remove {b : Bool} {d : Nat} {Q : zQ} {S : zSt} {σ : zV} {c : Nat} (h : RX S σ) (hc : c < 4) (hz : ∀ c, c < 4 → (sQu S c).length ≤ 40) (h0 : sQu S c = [] → Q (some (.int (-nI 1))) σ)
    (h1 : ∀ k t, sQu S c = k :: t → ∀ σ', RX (sTail c S) σ' → zoff [18, 19] σ σ' → Q (some (.int (nI k))) σ') : zCall (zUn b) (d + 1) yX2_removeFirst [.ref 17, .int (nI c)] σ Q := by
  obtain ⟨r1, r2, r3, r4, r5, r6, r7, r8, r9, r10⟩ := h
  obtain ⟨g1, g2⟩ := r8 c hc
  have hzc := hz c hc
  rw [nX2_removeFirst, bX2_removeFirst_0]
  cases hq : sQu S c with
  | nil =>
    rw [hq] at g1
    simp (disch := omega) only [nI_add, pk_mul, pk_sub, nI_clamp, nI_ltE, nI_leE, nI_eqE, nI_m, nI_m', nI_lt0, vp_inE, zc3, zc4, zc5, zc16, zc20, zc40, true_implies, false_implies, not_true_eq_false, not_false_eq_true, true_and, and_true, eq_self, implies_true, z_toL, z_toN, List.cons_append, List.nil_append, g1, List.length_nil]
    exact ⟨hc, h0 hq⟩
  | cons k t =>
    have hk := g2 0 (by rw [hq]; simp)
    rw [hq] at g1 hzc
    simp only [List.length_cons] at g1 hzc
    simp (disch := omega) only [nI_add, pk_mul, pk_sub, nI_clamp, nI_ltE, nI_leE, nI_eqE, nI_m, nI_m', nI_lt0, vp_inE, zc3, zc4, zc5, zc16, zc20, zc40, true_implies, false_implies, not_true_eq_false, not_false_eq_true, true_and, and_true, eq_self, implies_true, z_toL, z_toN, List.cons_append, List.nil_append, zput_ne, zput_in, g1, if_true]
    refine ⟨hc, fun _ => ⟨by omega, hc, hc, hc, by omega, by omega, by omega, by omega, by omega, ?_⟩, fun q => absurd q (by omega)⟩
    rw [Nat.add_zero] at hk
    rw [hk, hq, show zg (k :: t) 0 0 = k from zg_of rfl]
    generalize hσ1 : va_up _ 19 _ = σ1
    have k18 : ∀ i, σ1 18 i = if i = c then nI t.length else σ 18 i := by
      intro i
      rw [← hσ1]
      simp only [va_up, show ¬ (18 : Nat) = 19 from by decide, if_false]
      rw [zput_in, Nat.add_sub_cancel]
    have k19 : ∀ i, σ1 19 i = if c * 40 ≤ i ∧ i < c * 40 + t.length then σ 19 (i + 1) else σ 19 i := by
      intro i
      rw [← hσ1]
      simp only [va_up, va_cpy, if_true, Nat.add_sub_cancel]
      split
      · congr 1; omega
      · rfl
    have o : zoff [18, 19] σ σ1 := by
      rw [← hσ1]
      exact zoff_tr (zoff_put (by simp)) (zoff_up (by simp))
    refine h1 k t hq σ1 ⟨XC_c (o 0 (by simp)) r1, XT_c (o 0 (by simp)) r2, XG_c (o 2 (by simp)) r3, XH_c (o 3 (by simp)) (o 4 (by simp)) (o 5 (by simp)) r4, XK_c (o 7 (by simp)) (o 8 (by simp)) r5, XF_c (o 10 (by simp)) r6, XN_c (o 12 (by simp)) (o 13 (by simp)) (o 14 (by simp)) (o 15 (by simp)) (o 16 (by simp)) r7, fun c' hc' => ?_, XS_c (o 20 (by simp)) (o 21 (by simp)) (o 22 (by simp)) (o 23 (by simp)) (o 24 (by simp)) (o 25 (by simp)) (o 26 (by simp)) (o 27 (by simp)) r9, XU_c (o 9 (by simp)) r10⟩ o
    show σ1 18 c' = nI (va_up (sQu S) c (sQu S c).tail c').length ∧ ∀ k', k' < (va_up (sQu S) c (sQu S c).tail c').length → σ1 19 (c' * 40 + k') = nI (zg (va_up (sQu S) c (sQu S c).tail c') k' 0)
    by_cases e : c' = c
    · subst e
      rw [va_up_self, k18, if_pos rfl, hq]
      refine ⟨rfl, fun k' hk' => ?_⟩
      rw [List.tail_cons] at hk'
      have g3 := g2 (k' + 1) (by rw [hq]; simp only [List.length_cons]; omega)
      rw [hq] at g3
      rw [k19, if_pos (by omega), zg_tail (by simp only [List.length_cons]; omega), ← g3]
      congr 1
    · rw [va_up_ne _ _ e, k18, if_neg e]
      refine ⟨(r8 c' hc').1, fun k' hk' => ?_⟩
      have := hz c' hc'
      rw [k19, if_neg (by omega)]
      exact (r8 c' hc').2 k' hk'

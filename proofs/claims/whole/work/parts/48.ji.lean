/-! the model begins -/
theorem M_again {d : Nat} {Q : zQ} {σ : zV} {nc : Nat} (hQ : ∀ σ', RM (sNew nc) σ' → zMo σ σ' → Q none σ') : zCall (zUn true) (d + 1) yX6_begin [.ref 28, .int (nI nc)] σ Q := by
  rw [nX6_begin, bX6_begin_0]
  generalize hz : zput (zput (zput (zput (zput (zput (zput (zput (zput (zput (zput σ 28 0 (nI nc)) 28 1 (nI 0)) 28 2 (nI 0)) 28 3 (nI 0)) 28 16 (nI 0)) 28 24 (nI 0)) 28 25 (nI 0)) 28 26 (nI 0)) 28 27 (nI 0)) 28 28 (nI 0)) 28 29 (nI 0) = σ0
  have hC : MC nc σ0 := by
    unfold MC
    rw [← hz]
    simp (disch := omega) only [zput_ne, zput_ii, zput_in']
  have hT : MT (fun _ => nI 0) σ0 := by
    rw [← hz]
    refine ⟨?_, ?_, ?_, ?_, ?_, ?_, ?_, ?_, ?_⟩ <;> simp (disch := omega) only [zput_ne, zput_ii, zput_in']
  have h16 : σ0 28 16 = nI 0 := by
    rw [← hz]
    simp (disch := omega) only [zput_ne, zput_ii, zput_in']
  have o0 : zMo σ σ0 := by
    rw [← hz]
    intro k hk
    simp (disch := omega) only [zput_ne]
  clear hz
  -- the last loop
  have l4 : ∀ m j σ', m + j = 12 → zoff [29, 30, 31, 32, 33, 34, 35, 36, 38, 40] σ0 σ' → (∀ p, p < 48 → MHr [((0 : Nat), nI 0)] p σ') → (∀ i, i < 3 → σ' 30 i = nI 0) → (∀ i, i < 4 → σ' 34 i = nI 0 ∧ σ' 35 i = nI 1 ∧ σ' 36 i = nI 0 ∧ σ' 38 i = nI 0) → (∀ i, i < j → σ' 40 i = nI 0) → eX6_begin d Q 166 [.ref 28, .int (nI nc), .int (nI j)] [] σ' := by
    intro m
    induction m with
    | zero =>
      intro j σ' hj o f1 f2 f3 f4
      rw [bX6_begin_166, show j = 12 by omega]
      refine ⟨fun _ => hQ σ' ?_ (zMo_tr o0 (zMo_of o rfl)), fun q => absurd (Int32.le_refl _) q⟩
      exact RM_mk (MC_c (o 28 (by simp)) hC) (MT_c (o 28 (by simp)) hT) (fun s hs => f2 s hs) f1 (fun c hc => ⟨(f3 c hc).1, (f3 c hc).2.1⟩) (fun i hi => f4 i (by omega)) (fun c hc => ⟨(f3 c hc).2.2.1, fun k hk => absurd hk (by show ¬ k < 0; omega)⟩) (fun c hc => ⟨(f3 c hc).2.2.2, fun k hk => absurd hk (by show ¬ k < 0; omega)⟩) ⟨by rw [o 28 (by simp)]; exact h16, fun k hk => absurd hk (by show ¬ k < 0; omega)⟩
    | succ m ih =>
      intro j σ' hj o f1 f2 f3 f4
      rw [bX6_begin_166]
      simp (disch := omega) only [nI_add, nI_clamp, nI_leE, vp_inE]
      refine ⟨fun q => absurd q (by omega), fun _ => ⟨by omega, ih (j + 1) _ (by omega) (zoff_tr o (zoff_put (by simp))) ?_ ?_ ?_ ?_⟩⟩
      · intro p hp
        have := f1 p hp
        unfold MHr at this ⊢
        simp (disch := omega) only [zput_ne]
        exact this
      · intro i hi
        simp (disch := omega) only [zput_ne]
        exact f2 i hi
      · intro i hi
        simp (disch := omega) only [zput_ne]
        exact f3 i hi
      · intro i hi
        rw [zput_in]
        split
        · rfl
        · exact f4 i (by omega)
  have l3 : ∀ m j σ', m + j = 4 → zoff [29, 30, 31, 32, 33, 34, 35, 36, 38, 40] σ0 σ' → (∀ p, p < 48 → MHr [((0 : Nat), nI 0)] p σ') → (∀ i, i < 3 → σ' 30 i = nI 0) → (∀ i, i < j → σ' 34 i = nI 0 ∧ σ' 35 i = nI 1 ∧ σ' 36 i = nI 0 ∧ σ' 38 i = nI 0) → eX6_begin d Q 125 [.ref 28, .int (nI nc), .int (nI j)] [] σ' := by
    intro m
    induction m with
    | zero =>
      intro j σ' hj o f1 f2 f3
      rw [bX6_begin_125, show j = 4 by omega]
      exact ⟨fun _ => l4 12 0 σ' rfl o f1 f2 (fun i hi => f3 i (by omega)) (fun i hi => absurd hi (by omega)), fun q => absurd (Int32.le_refl _) q⟩
    | succ m ih =>
      intro j σ' hj o f1 f2 f3
      have e1 : vp_nar .boolean (nI 1) = nI 1 := by decide
      rw [bX6_begin_125, e1]
      simp (disch := omega) only [nI_add, nI_clamp, nI_leE, vp_inE]
      refine ⟨fun q => absurd q (by omega), fun _ => ⟨by omega, by omega, by omega, by omega, ih (j + 1) _ (by omega) (zoff_tr o (zoff_tr (zoff_put (by simp)) (zoff_tr (zoff_put (by simp)) (zoff_tr (zoff_put (by simp)) (zoff_put (by simp)))))) ?_ ?_ ?_⟩⟩
      · intro p hp
        have := f1 p hp
        unfold MHr at this ⊢
        simp (disch := omega) only [zput_ne]
        exact this
      · intro i hi
        simp (disch := omega) only [zput_ne]
        exact f2 i hi
      · intro i hi
        simp (disch := omega) only [zput_ne, zput_in]
        split
        · exact ⟨rfl, rfl, rfl, rfl⟩
        · exact f3 i (by omega)
  have l2 : ∀ m j σ', m + j = 3 → zoff [29, 30, 31, 32, 33, 34, 35, 36, 38, 40] σ0 σ' → (∀ p, p < 48 → MHr [((0 : Nat), nI 0)] p σ') → (∀ i, i < j → σ' 30 i = nI 0) → eX6_begin d Q 105 [.ref 28, .int (nI nc), .int (nI j)] [] σ' := by
    intro m
    induction m with
    | zero =>
      intro j σ' hj o f1 f2
      rw [bX6_begin_105, show j = 3 by omega]
      exact ⟨fun _ => l3 4 0 σ' rfl o f1 (fun i hi => f2 i (by omega)) (fun i hi => absurd hi (by omega)), fun q => absurd (Int32.le_refl _) q⟩
    | succ m ih =>
      intro j σ' hj o f1 f2
      rw [bX6_begin_105]
      simp (disch := omega) only [nI_add, nI_clamp, nI_leE, vp_inE]
      refine ⟨fun q => absurd q (by omega), fun _ => ⟨by omega, ih (j + 1) _ (by omega) (zoff_tr o (zoff_put (by simp))) ?_ ?_⟩⟩
      · intro p hp
        have := f1 p hp
        unfold MHr at this ⊢
        simp (disch := omega) only [zput_ne]
        exact this
      · intro i hi
        rw [zput_in]
        split
        · rfl
        · exact f2 i (by omega)
  have l1 : ∀ m j σ', m + j = 48 → zoff [29, 30, 31, 32, 33, 34, 35, 36, 38, 40] σ0 σ' → (∀ p, p < j → MHr [((0 : Nat), nI 0)] p σ') → eX6_begin d Q 57 [.ref 28, .int (nI nc), .int (nI j)] [] σ' := by
    intro m
    induction m with
    | zero =>
      intro j σ' hj o f1
      rw [bX6_begin_57, show j = 48 by omega]
      exact ⟨fun _ => l2 3 0 σ' rfl o (fun i hi => f1 i (by omega)) (fun i hi => absurd hi (by omega)), fun q => absurd (Int32.le_refl _) q⟩
    | succ m ih =>
      intro j σ' hj o f1
      rw [bX6_begin_57]
      simp (disch := omega) only [nI_add, pk_mul, zc20, nI_clamp, nI_leE, vp_inE]
      refine ⟨fun q => absurd q (by omega), fun _ => ⟨by omega, by omega, by omega, by omega, ih (j + 1) _ (by omega) (zoff_tr o (zoff_tr (zoff_put (by simp)) (zoff_tr (zoff_put (by simp)) (zoff_tr (zoff_put (by simp)) (zoff_put (by simp)))))) ?_⟩⟩
      intro p hp
      by_cases e : p = j
      · subst e
        refine ⟨?_, fun k hk => ?_, ?_⟩
        · simp (disch := omega) only [zput_ne, zput_ii]; rfl
        · have hk : k < 1 := hk
          have hk : k = 0 := by omega
          subst hk
          simp (disch := omega) only [zput_ne, zput_in, Nat.add_zero, if_true]
          exact ⟨rfl, rfl⟩
        · simp (disch := omega) only [zput_ne, zput_ii]; rfl
      · obtain ⟨q1, q2, q3⟩ := f1 p (by omega)
        refine ⟨?_, fun k hk => ?_, ?_⟩
        · simp (disch := omega) only [zput_ne, zput_in']; exact q1
        · have hk' : k < 1 := hk
          have hk' : k = 0 := by omega
          have := q2 k hk
          subst hk'
          simp (disch := omega) only [zput_ne, zput_in']
          exact this
        · simp (disch := omega) only [zput_ne, zput_in']; exact q3
  exact l1 48 0 σ0 rfl zoff_rf (fun p hp => absurd hp (by omega))

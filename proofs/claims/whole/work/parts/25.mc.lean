/-! the model: congruences and simple steps (by program) -/
def zMo (σ σ' : zV) : Prop := ∀ k, k < 28 → σ' k = σ k
theorem zMo_rf {σ : zV} : zMo σ σ := fun _ _ => rfl
theorem zMo_tr {σ σ1 σ2 : zV} (h : zMo σ σ1) (g : zMo σ1 σ2) : zMo σ σ2 := fun k hk => (g k hk).trans (h k hk)
theorem zMo_of {L : List Nat} {σ σ1 : zV} (h : zoff L σ σ1) (hL : L.all (fun k => decide (28 ≤ k)) = true) : zMo σ σ1 := fun k hk => h k (fun q => by
  have := List.all_eq_true.mp hL k q
  simp only [decide_eq_true_eq] at this
  omega)
theorem zMo_put {σ : zV} {a k : Nat} {x : Int32} (h : 28 ≤ a) : zMo σ (zput σ a k x) := fun b hb => zput_off b (by omega)
theorem MC_c {nc : Nat} {σ σ' : zV} (h0 : σ' 28 = σ 28) (h : MC nc σ) : MC nc σ' := by unfold MC at *; rw [h0]; exact h
theorem MT_c {sc : Nat → Int32} {σ σ' : zV} (h0 : σ' 28 = σ 28) (h : MT sc σ) : MT sc σ' := by unfold MT at *; rw [h0]; exact h
theorem MG_c {gen : Nat → Nat} {σ σ' : zV} (h0 : σ' 30 = σ 30) (h : MG gen σ) : MG gen σ' := by unfold MG at *; rw [h0]; exact h
theorem MH_c {hi : Nat → List (Nat × Int32)} {σ σ' : zV} (h0 : σ' 31 = σ 31) (h1 : σ' 33 = σ 33) (h2 : σ' 32 = σ 32) (h3 : σ' 29 = σ 29) (h : MH hi σ) : MH hi σ' := by unfold MH MHr at *; rw [h0, h1, h2, h3]; exact h
theorem MF_c {fg : Nat → Nat} {σ σ' : zV} (h0 : σ' 40 = σ 40) (h : MF fg σ) : MF fg σ' := by unfold MF at *; rw [h0]; exact h
theorem MN_c {no : Nat → List zNote} {σ σ' : zV} (h0 : σ' 36 = σ 36) (h1 : σ' 37 = σ 37) (h : MN no σ) : MN no σ' := by unfold MN MR at *; rw [h0, h1]; exact h
theorem MQu_c {qu : Nat → List Nat} {σ σ' : zV} (h0 : σ' 38 = σ 38) (h1 : σ' 39 = σ 39) (h : MQu qu σ) : MQu qu σ' := by unfold MQu at *; rw [h0, h1]; exact h
theorem MS_c {sh : List zSh} {σ σ' : zV} (h0 : σ' 28 = σ 28) (h1 : σ' 41 = σ 41) (h2 : σ' 42 = σ 42) (h3 : σ' 43 = σ 43) (h4 : σ' 44 = σ 44) (h5 : σ' 45 = σ 45) (h6 : σ' 46 = σ 46) (h7 : σ' 47 = σ 47) (h : MS sh σ) : MS sh σ' := by unfold MS MSr at *; rw [h0, h1, h2, h3, h4, h5, h6, h7]; exact h
theorem MK_c {sp : Nat → Nat} {aw : Nat → Bool} {σ σ' : zV} (h0 : σ' 34 = σ 34) (h1 : σ' 35 = σ 35) (h : MK sp aw σ) : MK sp aw σ' := by unfold MK at *; rw [h0, h1]; exact h
theorem RM_forg {S : zSt} {σ σ' : zV} {c s : Nat} {p : Int32} (h : RM S σ) (o : zoff [36, 37] σ σ') (hN : MN (va_up (sNo S) c (zkeep s p (sNo S c))) σ') : RM (sForg c s p S) σ' := by
  obtain ⟨r1, r2, r3, r4, r5, r6, r7, r8, r9⟩ := h
  exact ⟨MC_c (o 28 (by simp)) r1, MT_c (o 28 (by simp)) r2, MG_c (o 30 (by simp)) r3, MH_c (o 31 (by simp)) (o 33 (by simp)) (o 32 (by simp)) (o 29 (by simp)) r4, MK_c (o 34 (by simp)) (o 35 (by simp)) r5, MF_c (o 40 (by simp)) r6, hN, MQu_c (o 38 (by simp)) (o 39 (by simp)) r8, MS_c (o 28 (by simp)) (o 41 (by simp)) (o 42 (by simp)) (o 43 (by simp)) (o 44 (by simp)) (o 45 (by simp)) (o 46 (by simp)) (o 47 (by simp)) r9⟩
theorem RM_note {S : zSt} {σ σ' : zV} {c : Nat} {n : zNote} (h : RM S σ) (o : zoff [36, 37] σ σ') (hN : MN (va_up (sNo S) c (zadd (sNo S c) n)) σ') : RM (sNote c n S) σ' := by
  obtain ⟨r1, r2, r3, r4, r5, r6, r7, r8, r9⟩ := h
  exact ⟨MC_c (o 28 (by simp)) r1, MT_c (o 28 (by simp)) r2, MG_c (o 30 (by simp)) r3, MH_c (o 31 (by simp)) (o 33 (by simp)) (o 32 (by simp)) (o 29 (by simp)) r4, MK_c (o 34 (by simp)) (o 35 (by simp)) r5, MF_c (o 40 (by simp)) r6, hN, MQu_c (o 38 (by simp)) (o 39 (by simp)) r8, MS_c (o 28 (by simp)) (o 41 (by simp)) (o 42 (by simp)) (o 43 (by simp)) (o 44 (by simp)) (o 45 (by simp)) (o 46 (by simp)) (o 47 (by simp)) r9⟩
theorem RM_hist {S : zSt} {σ σ' : zV} {p e : Nat} (h : RM S σ) (o : zoff [29, 31, 32, 33] σ σ') (hH : MH (va_up (sHi S) p (zadh (sHi S p) (e, sSc S 1))) σ') : RM (sHist p e S) σ' := by
  obtain ⟨r1, r2, r3, r4, r5, r6, r7, r8, r9⟩ := h
  exact ⟨MC_c (o 28 (by simp)) r1, MT_c (o 28 (by simp)) r2, MG_c (o 30 (by simp)) r3, hH, MK_c (o 34 (by simp)) (o 35 (by simp)) r5, MF_c (o 40 (by simp)) r6, MN_c (o 36 (by simp)) (o 37 (by simp)) r7, MQu_c (o 38 (by simp)) (o 39 (by simp)) r8, MS_c (o 28 (by simp)) (o 41 (by simp)) (o 42 (by simp)) (o 43 (by simp)) (o 44 (by simp)) (o 45 (by simp)) (o 46 (by simp)) (o 47 (by simp)) r9⟩
theorem RM_spa {S : zSt} {σ : zV} {c s : Nat} (h : RM S σ) : RM (sSpa c s S) (zput σ 34 c (nI s)) := by
  obtain ⟨r1, r2, r3, r4, r5, r6, r7, r8, r9⟩ := h
  have o : zoff [34] σ (zput σ 34 c (nI s)) := zoff_put (by simp)
  refine ⟨MC_c (o 28 (by simp)) r1, MT_c (o 28 (by simp)) r2, MG_c (o 30 (by simp)) r3, MH_c (o 31 (by simp)) (o 33 (by simp)) (o 32 (by simp)) (o 29 (by simp)) r4, fun c' hc' => ?_, MF_c (o 40 (by simp)) r6, MN_c (o 36 (by simp)) (o 37 (by simp)) r7, MQu_c (o 38 (by simp)) (o 39 (by simp)) r8, MS_c (o 28 (by simp)) (o 41 (by simp)) (o 42 (by simp)) (o 43 (by simp)) (o 44 (by simp)) (o 45 (by simp)) (o 46 (by simp)) (o 47 (by simp)) r9⟩
  show zput σ 34 c (nI s) 34 c' = nI (va_up (sSp S) c s c') ∧ zput σ 34 c (nI s) 35 c' = zb (sAw S c')
  rw [o 35 (by simp), zput_in]
  refine ⟨?_, (r5 c' hc').2⟩
  unfold va_up
  split
  · rfl
  · exact (r5 c' hc').1
theorem RM_awk {S : zSt} {σ : zV} {c : Nat} {a : Bool} (h : RM S σ) : RM (sAwk c a S) (zput σ 35 c (zb a)) := by
  obtain ⟨r1, r2, r3, r4, r5, r6, r7, r8, r9⟩ := h
  have o : zoff [35] σ (zput σ 35 c (zb a)) := zoff_put (by simp)
  refine ⟨MC_c (o 28 (by simp)) r1, MT_c (o 28 (by simp)) r2, MG_c (o 30 (by simp)) r3, MH_c (o 31 (by simp)) (o 33 (by simp)) (o 32 (by simp)) (o 29 (by simp)) r4, fun c' hc' => ?_, MF_c (o 40 (by simp)) r6, MN_c (o 36 (by simp)) (o 37 (by simp)) r7, MQu_c (o 38 (by simp)) (o 39 (by simp)) r8, MS_c (o 28 (by simp)) (o 41 (by simp)) (o 42 (by simp)) (o 43 (by simp)) (o 44 (by simp)) (o 45 (by simp)) (o 46 (by simp)) (o 47 (by simp)) r9⟩
  show zput σ 35 c (zb a) 34 c' = nI (sSp S c') ∧ zput σ 35 c (zb a) 35 c' = zb (va_up (sAw S) c a c')
  rw [o 34 (by simp), zput_in]
  refine ⟨(r5 c' hc').1, ?_⟩
  unfold va_up
  split
  · rfl
  · exact (r5 c' hc').2
theorem RM_rai {S : zSt} {σ : zV} {c s g : Nat} (h : RM S σ) {x : Int32} (hx : x = nI (if sFg S (c * 3 + s) < g then g else sFg S (c * 3 + s))) : RM (sRai c s g S) (zput σ 40 (c * 3 + s) x) := by
  obtain ⟨r1, r2, r3, r4, r5, r6, r7, r8, r9⟩ := h
  have o : zoff [40] σ (zput σ 40 (c * 3 + s) x) := zoff_put (by simp)
  refine ⟨MC_c (o 28 (by simp)) r1, MT_c (o 28 (by simp)) r2, MG_c (o 30 (by simp)) r3, MH_c (o 31 (by simp)) (o 33 (by simp)) (o 32 (by simp)) (o 29 (by simp)) r4, MK_c (o 34 (by simp)) (o 35 (by simp)) r5, fun i hi => ?_, MN_c (o 36 (by simp)) (o 37 (by simp)) r7, MQu_c (o 38 (by simp)) (o 39 (by simp)) r8, MS_c (o 28 (by simp)) (o 41 (by simp)) (o 42 (by simp)) (o 43 (by simp)) (o 44 (by simp)) (o 45 (by simp)) (o 46 (by simp)) (o 47 (by simp)) r9⟩
  show zput σ 40 (c * 3 + s) x 40 i = nI (va_up (sFg S) (c * 3 + s) _ i)
  rw [zput_in]
  unfold va_up
  split
  · exact hx
  · exact r6 i hi
theorem RM_set1 {S : zSt} {σ : zV} (h : RM S σ) (v : Int32) : RM (sSet 1 v S) (zput σ 28 1 v) := by
  obtain ⟨r1, r2, r3, r4, r5, r6, r7, r8, r9⟩ := h
  have o : zoff [28] σ (zput σ 28 1 v) := zoff_put (by simp)
  refine ⟨?_, ?_, MG_c (o 30 (by simp)) r3, MH_c (o 31 (by simp)) (o 33 (by simp)) (o 32 (by simp)) (o 29 (by simp)) r4, MK_c (o 34 (by simp)) (o 35 (by simp)) r5, MF_c (o 40 (by simp)) r6, MN_c (o 36 (by simp)) (o 37 (by simp)) r7, MQu_c (o 38 (by simp)) (o 39 (by simp)) r8, ?_⟩
  · show zput σ 28 1 v 28 0 = nI (sNc S)
    rw [zput_in' (by decide)]
    exact r1
  · obtain ⟨t1, t2, t3, t4, t5, t6, t7, t8, t9⟩ := r2
    show zput σ 28 1 v 28 1 = va_up (sSc S) 1 v 1 ∧ zput σ 28 1 v 28 3 = va_up (sSc S) 1 v 2 ∧ zput σ 28 1 v 28 2 = va_up (sSc S) 1 v 3 ∧ zput σ 28 1 v 28 24 = va_up (sSc S) 1 v 4 ∧ zput σ 28 1 v 28 25 = va_up (sSc S) 1 v 5 ∧ zput σ 28 1 v 28 26 = va_up (sSc S) 1 v 6 ∧ zput σ 28 1 v 28 27 = va_up (sSc S) 1 v 7 ∧ zput σ 28 1 v 28 28 = va_up (sSc S) 1 v 8 ∧ zput σ 28 1 v 28 29 = va_up (sSc S) 1 v 9
    simp only [zput_in, va_up, ← t1, ← t2, ← t3, ← t4, ← t5, ← t6, ← t7, ← t8, ← t9]
    simp
  · obtain ⟨s1, s2⟩ := r9
    refine ⟨by rw [zput_in' (by decide)]; exact s1, fun k hk => ?_⟩
    have := s2 k hk
    unfold MSr at *
    rw [o 41 (by simp), o 42 (by simp), o 43 (by simp), o 44 (by simp), o 45 (by simp), o 46 (by simp), o 47 (by simp)]
    exact this
theorem RM_set2 {S : zSt} {σ : zV} (h : RM S σ) (v : Int32) : RM (sSet 2 v S) (zput σ 28 3 v) := by
  obtain ⟨r1, r2, r3, r4, r5, r6, r7, r8, r9⟩ := h
  have o : zoff [28] σ (zput σ 28 3 v) := zoff_put (by simp)
  refine ⟨?_, ?_, MG_c (o 30 (by simp)) r3, MH_c (o 31 (by simp)) (o 33 (by simp)) (o 32 (by simp)) (o 29 (by simp)) r4, MK_c (o 34 (by simp)) (o 35 (by simp)) r5, MF_c (o 40 (by simp)) r6, MN_c (o 36 (by simp)) (o 37 (by simp)) r7, MQu_c (o 38 (by simp)) (o 39 (by simp)) r8, ?_⟩
  · show zput σ 28 3 v 28 0 = nI (sNc S)
    rw [zput_in' (by decide)]
    exact r1
  · obtain ⟨t1, t2, t3, t4, t5, t6, t7, t8, t9⟩ := r2
    show zput σ 28 3 v 28 1 = va_up (sSc S) 2 v 1 ∧ zput σ 28 3 v 28 3 = va_up (sSc S) 2 v 2 ∧ zput σ 28 3 v 28 2 = va_up (sSc S) 2 v 3 ∧ zput σ 28 3 v 28 24 = va_up (sSc S) 2 v 4 ∧ zput σ 28 3 v 28 25 = va_up (sSc S) 2 v 5 ∧ zput σ 28 3 v 28 26 = va_up (sSc S) 2 v 6 ∧ zput σ 28 3 v 28 27 = va_up (sSc S) 2 v 7 ∧ zput σ 28 3 v 28 28 = va_up (sSc S) 2 v 8 ∧ zput σ 28 3 v 28 29 = va_up (sSc S) 2 v 9
    simp only [zput_in, va_up, ← t1, ← t2, ← t3, ← t4, ← t5, ← t6, ← t7, ← t8, ← t9]
    simp
  · obtain ⟨s1, s2⟩ := r9
    refine ⟨by rw [zput_in' (by decide)]; exact s1, fun k hk => ?_⟩
    have := s2 k hk
    unfold MSr at *
    rw [o 41 (by simp), o 42 (by simp), o 43 (by simp), o 44 (by simp), o 45 (by simp), o 46 (by simp), o 47 (by simp)]
    exact this
theorem RM_set3 {S : zSt} {σ : zV} (h : RM S σ) (v : Int32) : RM (sSet 3 v S) (zput σ 28 2 v) := by
  obtain ⟨r1, r2, r3, r4, r5, r6, r7, r8, r9⟩ := h
  have o : zoff [28] σ (zput σ 28 2 v) := zoff_put (by simp)
  refine ⟨?_, ?_, MG_c (o 30 (by simp)) r3, MH_c (o 31 (by simp)) (o 33 (by simp)) (o 32 (by simp)) (o 29 (by simp)) r4, MK_c (o 34 (by simp)) (o 35 (by simp)) r5, MF_c (o 40 (by simp)) r6, MN_c (o 36 (by simp)) (o 37 (by simp)) r7, MQu_c (o 38 (by simp)) (o 39 (by simp)) r8, ?_⟩
  · show zput σ 28 2 v 28 0 = nI (sNc S)
    rw [zput_in' (by decide)]
    exact r1
  · obtain ⟨t1, t2, t3, t4, t5, t6, t7, t8, t9⟩ := r2
    show zput σ 28 2 v 28 1 = va_up (sSc S) 3 v 1 ∧ zput σ 28 2 v 28 3 = va_up (sSc S) 3 v 2 ∧ zput σ 28 2 v 28 2 = va_up (sSc S) 3 v 3 ∧ zput σ 28 2 v 28 24 = va_up (sSc S) 3 v 4 ∧ zput σ 28 2 v 28 25 = va_up (sSc S) 3 v 5 ∧ zput σ 28 2 v 28 26 = va_up (sSc S) 3 v 6 ∧ zput σ 28 2 v 28 27 = va_up (sSc S) 3 v 7 ∧ zput σ 28 2 v 28 28 = va_up (sSc S) 3 v 8 ∧ zput σ 28 2 v 28 29 = va_up (sSc S) 3 v 9
    simp only [zput_in, va_up, ← t1, ← t2, ← t3, ← t4, ← t5, ← t6, ← t7, ← t8, ← t9]
    simp
  · obtain ⟨s1, s2⟩ := r9
    refine ⟨by rw [zput_in' (by decide)]; exact s1, fun k hk => ?_⟩
    have := s2 k hk
    unfold MSr at *
    rw [o 41 (by simp), o 42 (by simp), o 43 (by simp), o 44 (by simp), o 45 (by simp), o 46 (by simp), o 47 (by simp)]
    exact this
theorem RM_set4 {S : zSt} {σ : zV} (h : RM S σ) (v : Int32) : RM (sSet 4 v S) (zput σ 28 24 v) := by
  obtain ⟨r1, r2, r3, r4, r5, r6, r7, r8, r9⟩ := h
  have o : zoff [28] σ (zput σ 28 24 v) := zoff_put (by simp)
  refine ⟨?_, ?_, MG_c (o 30 (by simp)) r3, MH_c (o 31 (by simp)) (o 33 (by simp)) (o 32 (by simp)) (o 29 (by simp)) r4, MK_c (o 34 (by simp)) (o 35 (by simp)) r5, MF_c (o 40 (by simp)) r6, MN_c (o 36 (by simp)) (o 37 (by simp)) r7, MQu_c (o 38 (by simp)) (o 39 (by simp)) r8, ?_⟩
  · show zput σ 28 24 v 28 0 = nI (sNc S)
    rw [zput_in' (by decide)]
    exact r1
  · obtain ⟨t1, t2, t3, t4, t5, t6, t7, t8, t9⟩ := r2
    show zput σ 28 24 v 28 1 = va_up (sSc S) 4 v 1 ∧ zput σ 28 24 v 28 3 = va_up (sSc S) 4 v 2 ∧ zput σ 28 24 v 28 2 = va_up (sSc S) 4 v 3 ∧ zput σ 28 24 v 28 24 = va_up (sSc S) 4 v 4 ∧ zput σ 28 24 v 28 25 = va_up (sSc S) 4 v 5 ∧ zput σ 28 24 v 28 26 = va_up (sSc S) 4 v 6 ∧ zput σ 28 24 v 28 27 = va_up (sSc S) 4 v 7 ∧ zput σ 28 24 v 28 28 = va_up (sSc S) 4 v 8 ∧ zput σ 28 24 v 28 29 = va_up (sSc S) 4 v 9
    simp only [zput_in, va_up, ← t1, ← t2, ← t3, ← t4, ← t5, ← t6, ← t7, ← t8, ← t9]
    simp
  · obtain ⟨s1, s2⟩ := r9
    refine ⟨by rw [zput_in' (by decide)]; exact s1, fun k hk => ?_⟩
    have := s2 k hk
    unfold MSr at *
    rw [o 41 (by simp), o 42 (by simp), o 43 (by simp), o 44 (by simp), o 45 (by simp), o 46 (by simp), o 47 (by simp)]
    exact this
theorem RM_set5 {S : zSt} {σ : zV} (h : RM S σ) (v : Int32) : RM (sSet 5 v S) (zput σ 28 25 v) := by
  obtain ⟨r1, r2, r3, r4, r5, r6, r7, r8, r9⟩ := h
  have o : zoff [28] σ (zput σ 28 25 v) := zoff_put (by simp)
  refine ⟨?_, ?_, MG_c (o 30 (by simp)) r3, MH_c (o 31 (by simp)) (o 33 (by simp)) (o 32 (by simp)) (o 29 (by simp)) r4, MK_c (o 34 (by simp)) (o 35 (by simp)) r5, MF_c (o 40 (by simp)) r6, MN_c (o 36 (by simp)) (o 37 (by simp)) r7, MQu_c (o 38 (by simp)) (o 39 (by simp)) r8, ?_⟩
  · show zput σ 28 25 v 28 0 = nI (sNc S)
    rw [zput_in' (by decide)]
    exact r1
  · obtain ⟨t1, t2, t3, t4, t5, t6, t7, t8, t9⟩ := r2
    show zput σ 28 25 v 28 1 = va_up (sSc S) 5 v 1 ∧ zput σ 28 25 v 28 3 = va_up (sSc S) 5 v 2 ∧ zput σ 28 25 v 28 2 = va_up (sSc S) 5 v 3 ∧ zput σ 28 25 v 28 24 = va_up (sSc S) 5 v 4 ∧ zput σ 28 25 v 28 25 = va_up (sSc S) 5 v 5 ∧ zput σ 28 25 v 28 26 = va_up (sSc S) 5 v 6 ∧ zput σ 28 25 v 28 27 = va_up (sSc S) 5 v 7 ∧ zput σ 28 25 v 28 28 = va_up (sSc S) 5 v 8 ∧ zput σ 28 25 v 28 29 = va_up (sSc S) 5 v 9
    simp only [zput_in, va_up, ← t1, ← t2, ← t3, ← t4, ← t5, ← t6, ← t7, ← t8, ← t9]
    simp
  · obtain ⟨s1, s2⟩ := r9
    refine ⟨by rw [zput_in' (by decide)]; exact s1, fun k hk => ?_⟩
    have := s2 k hk
    unfold MSr at *
    rw [o 41 (by simp), o 42 (by simp), o 43 (by simp), o 44 (by simp), o 45 (by simp), o 46 (by simp), o 47 (by simp)]
    exact this
theorem RM_set6 {S : zSt} {σ : zV} (h : RM S σ) (v : Int32) : RM (sSet 6 v S) (zput σ 28 26 v) := by
  obtain ⟨r1, r2, r3, r4, r5, r6, r7, r8, r9⟩ := h
  have o : zoff [28] σ (zput σ 28 26 v) := zoff_put (by simp)
  refine ⟨?_, ?_, MG_c (o 30 (by simp)) r3, MH_c (o 31 (by simp)) (o 33 (by simp)) (o 32 (by simp)) (o 29 (by simp)) r4, MK_c (o 34 (by simp)) (o 35 (by simp)) r5, MF_c (o 40 (by simp)) r6, MN_c (o 36 (by simp)) (o 37 (by simp)) r7, MQu_c (o 38 (by simp)) (o 39 (by simp)) r8, ?_⟩
  · show zput σ 28 26 v 28 0 = nI (sNc S)
    rw [zput_in' (by decide)]
    exact r1
  · obtain ⟨t1, t2, t3, t4, t5, t6, t7, t8, t9⟩ := r2
    show zput σ 28 26 v 28 1 = va_up (sSc S) 6 v 1 ∧ zput σ 28 26 v 28 3 = va_up (sSc S) 6 v 2 ∧ zput σ 28 26 v 28 2 = va_up (sSc S) 6 v 3 ∧ zput σ 28 26 v 28 24 = va_up (sSc S) 6 v 4 ∧ zput σ 28 26 v 28 25 = va_up (sSc S) 6 v 5 ∧ zput σ 28 26 v 28 26 = va_up (sSc S) 6 v 6 ∧ zput σ 28 26 v 28 27 = va_up (sSc S) 6 v 7 ∧ zput σ 28 26 v 28 28 = va_up (sSc S) 6 v 8 ∧ zput σ 28 26 v 28 29 = va_up (sSc S) 6 v 9
    simp only [zput_in, va_up, ← t1, ← t2, ← t3, ← t4, ← t5, ← t6, ← t7, ← t8, ← t9]
    simp
  · obtain ⟨s1, s2⟩ := r9
    refine ⟨by rw [zput_in' (by decide)]; exact s1, fun k hk => ?_⟩
    have := s2 k hk
    unfold MSr at *
    rw [o 41 (by simp), o 42 (by simp), o 43 (by simp), o 44 (by simp), o 45 (by simp), o 46 (by simp), o 47 (by simp)]
    exact this
theorem RM_set7 {S : zSt} {σ : zV} (h : RM S σ) (v : Int32) : RM (sSet 7 v S) (zput σ 28 27 v) := by
  obtain ⟨r1, r2, r3, r4, r5, r6, r7, r8, r9⟩ := h
  have o : zoff [28] σ (zput σ 28 27 v) := zoff_put (by simp)
  refine ⟨?_, ?_, MG_c (o 30 (by simp)) r3, MH_c (o 31 (by simp)) (o 33 (by simp)) (o 32 (by simp)) (o 29 (by simp)) r4, MK_c (o 34 (by simp)) (o 35 (by simp)) r5, MF_c (o 40 (by simp)) r6, MN_c (o 36 (by simp)) (o 37 (by simp)) r7, MQu_c (o 38 (by simp)) (o 39 (by simp)) r8, ?_⟩
  · show zput σ 28 27 v 28 0 = nI (sNc S)
    rw [zput_in' (by decide)]
    exact r1
  · obtain ⟨t1, t2, t3, t4, t5, t6, t7, t8, t9⟩ := r2
    show zput σ 28 27 v 28 1 = va_up (sSc S) 7 v 1 ∧ zput σ 28 27 v 28 3 = va_up (sSc S) 7 v 2 ∧ zput σ 28 27 v 28 2 = va_up (sSc S) 7 v 3 ∧ zput σ 28 27 v 28 24 = va_up (sSc S) 7 v 4 ∧ zput σ 28 27 v 28 25 = va_up (sSc S) 7 v 5 ∧ zput σ 28 27 v 28 26 = va_up (sSc S) 7 v 6 ∧ zput σ 28 27 v 28 27 = va_up (sSc S) 7 v 7 ∧ zput σ 28 27 v 28 28 = va_up (sSc S) 7 v 8 ∧ zput σ 28 27 v 28 29 = va_up (sSc S) 7 v 9
    simp only [zput_in, va_up, ← t1, ← t2, ← t3, ← t4, ← t5, ← t6, ← t7, ← t8, ← t9]
    simp
  · obtain ⟨s1, s2⟩ := r9
    refine ⟨by rw [zput_in' (by decide)]; exact s1, fun k hk => ?_⟩
    have := s2 k hk
    unfold MSr at *
    rw [o 41 (by simp), o 42 (by simp), o 43 (by simp), o 44 (by simp), o 45 (by simp), o 46 (by simp), o 47 (by simp)]
    exact this
theorem RM_set8 {S : zSt} {σ : zV} (h : RM S σ) (v : Int32) : RM (sSet 8 v S) (zput σ 28 28 v) := by
  obtain ⟨r1, r2, r3, r4, r5, r6, r7, r8, r9⟩ := h
  have o : zoff [28] σ (zput σ 28 28 v) := zoff_put (by simp)
  refine ⟨?_, ?_, MG_c (o 30 (by simp)) r3, MH_c (o 31 (by simp)) (o 33 (by simp)) (o 32 (by simp)) (o 29 (by simp)) r4, MK_c (o 34 (by simp)) (o 35 (by simp)) r5, MF_c (o 40 (by simp)) r6, MN_c (o 36 (by simp)) (o 37 (by simp)) r7, MQu_c (o 38 (by simp)) (o 39 (by simp)) r8, ?_⟩
  · show zput σ 28 28 v 28 0 = nI (sNc S)
    rw [zput_in' (by decide)]
    exact r1
  · obtain ⟨t1, t2, t3, t4, t5, t6, t7, t8, t9⟩ := r2
    show zput σ 28 28 v 28 1 = va_up (sSc S) 8 v 1 ∧ zput σ 28 28 v 28 3 = va_up (sSc S) 8 v 2 ∧ zput σ 28 28 v 28 2 = va_up (sSc S) 8 v 3 ∧ zput σ 28 28 v 28 24 = va_up (sSc S) 8 v 4 ∧ zput σ 28 28 v 28 25 = va_up (sSc S) 8 v 5 ∧ zput σ 28 28 v 28 26 = va_up (sSc S) 8 v 6 ∧ zput σ 28 28 v 28 27 = va_up (sSc S) 8 v 7 ∧ zput σ 28 28 v 28 28 = va_up (sSc S) 8 v 8 ∧ zput σ 28 28 v 28 29 = va_up (sSc S) 8 v 9
    simp only [zput_in, va_up, ← t1, ← t2, ← t3, ← t4, ← t5, ← t6, ← t7, ← t8, ← t9]
    simp
  · obtain ⟨s1, s2⟩ := r9
    refine ⟨by rw [zput_in' (by decide)]; exact s1, fun k hk => ?_⟩
    have := s2 k hk
    unfold MSr at *
    rw [o 41 (by simp), o 42 (by simp), o 43 (by simp), o 44 (by simp), o 45 (by simp), o 46 (by simp), o 47 (by simp)]
    exact this
theorem RM_set9 {S : zSt} {σ : zV} (h : RM S σ) (v : Int32) : RM (sSet 9 v S) (zput σ 28 29 v) := by
  obtain ⟨r1, r2, r3, r4, r5, r6, r7, r8, r9⟩ := h
  have o : zoff [28] σ (zput σ 28 29 v) := zoff_put (by simp)
  refine ⟨?_, ?_, MG_c (o 30 (by simp)) r3, MH_c (o 31 (by simp)) (o 33 (by simp)) (o 32 (by simp)) (o 29 (by simp)) r4, MK_c (o 34 (by simp)) (o 35 (by simp)) r5, MF_c (o 40 (by simp)) r6, MN_c (o 36 (by simp)) (o 37 (by simp)) r7, MQu_c (o 38 (by simp)) (o 39 (by simp)) r8, ?_⟩
  · show zput σ 28 29 v 28 0 = nI (sNc S)
    rw [zput_in' (by decide)]
    exact r1
  · obtain ⟨t1, t2, t3, t4, t5, t6, t7, t8, t9⟩ := r2
    show zput σ 28 29 v 28 1 = va_up (sSc S) 9 v 1 ∧ zput σ 28 29 v 28 3 = va_up (sSc S) 9 v 2 ∧ zput σ 28 29 v 28 2 = va_up (sSc S) 9 v 3 ∧ zput σ 28 29 v 28 24 = va_up (sSc S) 9 v 4 ∧ zput σ 28 29 v 28 25 = va_up (sSc S) 9 v 5 ∧ zput σ 28 29 v 28 26 = va_up (sSc S) 9 v 6 ∧ zput σ 28 29 v 28 27 = va_up (sSc S) 9 v 7 ∧ zput σ 28 29 v 28 28 = va_up (sSc S) 9 v 8 ∧ zput σ 28 29 v 28 29 = va_up (sSc S) 9 v 9
    simp only [zput_in, va_up, ← t1, ← t2, ← t3, ← t4, ← t5, ← t6, ← t7, ← t8, ← t9]
    simp
  · obtain ⟨s1, s2⟩ := r9
    refine ⟨by rw [zput_in' (by decide)]; exact s1, fun k hk => ?_⟩
    have := s2 k hk
    unfold MSr at *
    rw [o 41 (by simp), o 42 (by simp), o 43 (by simp), o 44 (by simp), o 45 (by simp), o 46 (by simp), o 47 (by simp)]
    exact this

/-! the class starts again: the state -/
theorem X_awk {b : Bool} {d : Nat} {Q : zQ} {σ : zV} (hQ : ∀ σ', zoff [8] σ σ' → (∀ i, i < 4 → σ' 8 i = nI 1) → Q none σ') : eX0_startAgain b (d + 1) Q 26 [.ref 6, .int (nI 0)] [] σ := by
  have loop : ∀ m j σ', m + j = 4 → zoff [8] σ σ' → (∀ i, i < j → σ' 8 i = nI 1) → eX0_startAgain b (d + 1) Q 26 [.ref 6, .int (nI j)] [] σ' := by
    intro m
    induction m with
    | zero =>
      intro j σ' hj o hv
      rw [bX0_startAgain_26, show j = 4 by omega]
      exact ⟨fun _ => hQ σ' o (fun i hi => hv i (by omega)), fun q => absurd (Int32.le_refl _) q⟩
    | succ m ih =>
      intro j σ' hj o hv
      rw [bX0_startAgain_26]
      refine ⟨fun q => ?_, fun _ => ⟨by rw [vp_inE (by omega)]; omega, ?_⟩⟩
      · rw [nI_leE (by omega) (by omega)] at q
        omega
      · have i := ih (j + 1) (zput σ' 8 j (nI 1)) (by omega) (zoff_tr o (zoff_put (by simp))) (fun i hi => by
          rw [zput_in]
          split
          · rfl
          · exact hv i (by omega))
        have e1 : vp_nar .boolean (nI 1) = nI 1 := by decide
        rw [nI_clamp (by omega), e1]
        rw [← nI_add] at i
        exact i
  exact loop 4 0 σ rfl zoff_rf (fun i hi => absurd hi (by omega))
/-- as it is at first, with so many cores -/
def sNew (nc : Nat) : zSt := zMk nc (fun _ => nI 0) (fun _ => 0) (fun _ => [(0, nI 0)]) (fun _ => 0) (fun _ => true) (fun _ => 0) (fun _ => []) (fun _ => []) []
theorem zI_new {n nc : Nat} (h1 : 1 ≤ nc) (h4 : nc ≤ 4) : zI n (sNew nc) := by
  refine ⟨⟨⟨h1, h4⟩, ⟨0, by omega, rfl⟩, fun p _ => ⟨by show 1 ≤ 1; omega, by show 1 ≤ 20; omega, fun x hx => ?_⟩, fun c _ => by show 0 < 3; omega, fun c _ => ⟨by show 0 ≤ 4; omega, fun n hn => absurd hn (by show n ∉ []; simp), List.Pairwise.nil⟩, fun c _ => ⟨List.Pairwise.nil, fun k hk => absurd hk (by show k ∉ []; simp), fun k hk => absurd hk (by show ¬ k < 0; omega)⟩, ⟨by show 0 ≤ 40; omega, fun r hr => absurd hr (by show r ∉ []; simp), fun i j hi => absurd hi (by show ¬ i < 0; omega)⟩, ⟨fun s _ => by show 0 ≤ 0; omega, fun c s _ _ => by show 0 ≤ 0; omega⟩⟩, ?_⟩
  · have hx : x ∈ [((0 : Nat), nI 0)] := hx
    rw [List.mem_singleton.mp hx]
    exact Or.inl rfl
  · exact fun k hk => absurd hk (by show ¬ k < 0; omega)
theorem X_again {b : Bool} {d : Nat} {Q : zQ} {σ : zV} {nc : Nat} (hQ : ∀ σ', RX (sNew nc) σ' → zXo σ σ' → Q none σ') : zCall (zUn b) (d + 3) yX5_startAgain [.ref 0, .int (nI nc)] σ Q := by
  rw [nX5_startAgain, bX5_startAgain_0, nX4_startAgain, bX4_startAgain_0]
  refine X_fill (d := d) (u_2 b) (by omega) (fun σ2 o2 f2 => ?_)
  simp only [z_toN, List.nil_append]
  rw [bX4_startAgain_8]
  refine X_fill (d := d) (u_3 b) (by omega) (fun σ3 o3 f3 => ?_)
  simp only [z_toN, List.nil_append]
  rw [bX4_startAgain_16]
  refine X_fill (d := d) (u_4 b) (by omega) (fun σ4 o4 f4 => ?_)
  simp only [z_toN, List.nil_append]
  rw [bX4_startAgain_24]
  refine X_fill (d := d) (u_5 b) (by omega) (fun σ5 o5 f5 => ?_)
  simp only [z_toN, List.nil_append]
  rw [bX4_startAgain_32]
  simp only [z_toN, List.nil_append]
  rw [bX5_startAgain_7, nX0_startAgain, bX0_startAgain_0]
  refine X_fill (d := d) (u_7 b) (by omega) (fun σ7 o7 f7 => ?_)
  simp only [z_toN, List.nil_append]
  rw [bX0_startAgain_8]
  refine X_fill (d := d) (u_9 b) (by omega) (fun σ9 o9 f9 => ?_)
  simp only [z_toN, List.nil_append]
  rw [bX0_startAgain_16]
  refine X_fill (d := d) (u_10 b) (by omega) (fun σ10 o10 f10 => ?_)
  simp only [z_toN, List.nil_append]
  rw [bX0_startAgain_24]
  refine X_awk (d := d) (fun σ8 o8 f8 => ?_)
  simp only [z_toN, List.nil_append]
  rw [bX5_startAgain_14, nX1_startAgain, bX1_startAgain_0]
  refine X_fill (d := d) (u_12 b) (by omega) (fun σ12 o12 f12 => ?_)
  simp only [z_toN, List.nil_append]
  rw [bX1_startAgain_8]
  simp only [z_toN, List.nil_append]
  rw [bX5_startAgain_21, nX2_startAgain, bX2_startAgain_0]
  refine X_fill (d := d) (u_18 b) (by omega) (fun σ18 o18 f18 => ?_)
  simp only [z_toN, List.nil_append]
  rw [bX2_startAgain_8]
  simp only [z_toN, List.nil_append]
  rw [bX5_startAgain_28, sX3_startAgain]
  simp only [z_toN, List.nil_append]
  rw [bX5_startAgain_35]
  have s18 := o18
  have s12 : zoff [12, 18] σ8 σ18 := zoff_tr (zoff_wk o12 (by simp)) (zoff_wk s18 (by simp))
  have s8 : zoff [8, 12, 18] σ10 σ18 := zoff_tr (zoff_wk o8 (by simp)) (zoff_wk s12 (by simp))
  have s10 : zoff [10, 8, 12, 18] σ9 σ18 := zoff_tr (zoff_wk o10 (by simp)) (zoff_wk s8 (by simp))
  have s9 : zoff [9, 10, 8, 12, 18] σ7 σ18 := zoff_tr (zoff_wk o9 (by simp)) (zoff_wk s10 (by simp))
  have s7 : zoff [7, 9, 10, 8, 12, 18] σ5 σ18 := zoff_tr (zoff_wk o7 (by simp)) (zoff_wk s9 (by simp))
  have s5 : zoff [5, 7, 9, 10, 8, 12, 18] σ4 σ18 := zoff_tr (zoff_wk o5 (by simp)) (zoff_wk s7 (by simp))
  have s4 : zoff [4, 5, 7, 9, 10, 8, 12, 18] σ3 σ18 := zoff_tr (zoff_wk o4 (by simp)) (zoff_wk s5 (by simp))
  have s3 : zoff [3, 4, 5, 7, 9, 10, 8, 12, 18] σ2 σ18 := zoff_tr (zoff_wk o3 (by simp)) (zoff_wk s4 (by simp))
  have s2 : zoff [2, 3, 4, 5, 7, 9, 10, 8, 12, 18] σ σ18 := zoff_tr (zoff_wk o2 (by simp)) (zoff_wk s3 (by simp))
  have g2 : ∀ i, i < 3 → σ18 2 i = nI 0 := fun i hi => by rw [s3 2 (by simp)]; exact f2 i hi
  have g3 : ∀ i, i < 48 → σ18 3 i = nI 1 := fun i hi => by rw [s4 3 (by simp)]; exact f3 i hi
  have g4 : ∀ i, i < 960 → σ18 4 i = -nI 1 := fun i hi => by rw [s5 4 (by simp)]; exact f4 i hi
  have g5 : ∀ i, i < 960 → σ18 5 i = nI 0 := fun i hi => by rw [s7 5 (by simp)]; exact f5 i hi
  have g7 : ∀ i, i < 4 → σ18 7 i = nI 0 := fun i hi => by rw [s9 7 (by simp)]; exact f7 i hi
  have g8 : ∀ i, i < 4 → σ18 8 i = nI 1 := fun i hi => by rw [s12 8 (by simp)]; exact f8 i hi
  have g9 : ∀ i, i < 4 → σ18 9 i = -nI 1 := fun i hi => by rw [s10 9 (by simp)]; exact f9 i hi
  have g10 : ∀ i, i < 12 → σ18 10 i = nI 0 := fun i hi => by rw [s8 10 (by simp)]; exact f10 i hi
  have g12 : ∀ i, i < 4 → σ18 12 i = nI 0 := fun i hi => by rw [s18 12 (by simp)]; exact f12 i hi
  have g18 := f18
  have ox : zXo σ σ18 := zXo_of s2 rfl
  clear s2 s3 s4 s5 s7 s8 s9 s10 s12 s18 o2 o3 o4 o5 o7 o8 o9 o10 o12 o18 f2 f3 f4 f5 f7 f8 f9 f10 f12 f18
  refine hQ _ ?_ ?_
  · refine RX_mk ?_ ?_ (fun s hs => ?_) (fun p hp => ⟨?_, fun k hk => ?_⟩) (fun c hc => ⟨?_, ?_⟩) (fun i hi => ?_) (fun c hc => ⟨?_, fun k hk => absurd hk (by show ¬ k < 0; omega)⟩) (fun c hc => ⟨?_, fun k hk => absurd hk (by show ¬ k < 0; omega)⟩) ⟨?_, fun k hk => absurd hk (by show ¬ k < 0; omega)⟩ (fun c hc => ?_)
    · show _ = _
      simp (disch := omega) only [zput_ne, zput_ii, zput_in']
    · refine ⟨?_, ?_, ?_, ?_, ?_, ?_, ?_, ?_, ?_⟩ <;> simp (disch := omega) only [zput_ne, zput_ii, zput_in']
    · simp (disch := omega) only [zput_ne]; exact g2 s hs
    · simp (disch := omega) only [zput_ne]; exact g3 p hp
    · have hk : k < 1 := hk
      have hk : k = 0 := by omega
      subst hk
      simp (disch := omega) only [zput_ne]
      exact ⟨g4 _ (by omega), g5 _ (by omega)⟩
    · simp (disch := omega) only [zput_ne]; exact g7 c hc
    · simp (disch := omega) only [zput_ne]; exact g8 c hc
    · simp (disch := omega) only [zput_ne]; exact g10 i hi
    · simp (disch := omega) only [zput_ne]; exact g12 c hc
    · simp (disch := omega) only [zput_ne]; exact g18 c hc
    · simp (disch := omega) only [zput_ne, zput_ii]; rfl
    · simp (disch := omega) only [zput_ne]; exact g9 c hc
  · intro k hk
    simp (disch := omega) only [zput_ne]
    exact ox k hk

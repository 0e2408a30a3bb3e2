/-! the digest, the model; both -/
theorem M_digest {d : Nat} {Q : zQ} {S : zSt} {σ : zV} {n : Nat} (h : RM S σ) (hI : zI n S) (hQ : Q (some (.long (fD S))) σ) : zCall (zUn true) (d + 5) yX6_digest [.ref 28] σ Q := by
  have hnc := hI.1.1.2
  have hnc1 := hI.1.1.1
  have hl := hI.1.2.2.2.2.2.2.1.1
  have k0 : σ 28 0 = nI (sNc S) := h.1
  have k1 : σ 28 1 = sSc S 1 := h.2.1.1
  have k16 : σ 28 16 = nI (sSh S).length := h.2.2.2.2.2.2.2.2.1
  have l6 : ∀ k (v5 : Value), v5.category = 1 → k < (sSh S).length → (∀ v4 : Value, v4.category = 1 → eX6_digest (d + 4) Q 137 [.ref 28, .long (fS S (k + 1)), .null, .int (nI (k + 1)), v4, v5] [] σ) → ∀ m w, m + w = 8 → eX6_digest (d + 4) Q 148 [.ref 28, .long (fS1 (fS S k) S k w), .null, .int (nI k), .int (nI w), v5] [] σ := by
    intro k v5 h5 hk nx m
    induction m with
    | zero =>
      intro w hw
      rw [bX6_digest_148 h5, show w = 8 by omega, nI_add]
      exact ⟨fun _ => nx _ rfl, fun q => absurd (Int32.le_refl _) q⟩
    | succ m ih =>
      intro w hw
      have nle : ¬ nI 8 ≤ nI w := by rw [nI_leE (by omega) (by omega)]; omega
      rw [bX6_digest_148 h5]
      refine ⟨fun q => absurd q nle, fun _ => M_shoot (d := d + 2) h hI hk (by omega) ?_⟩
      simp only [z_toL, List.cons_append, List.nil_append]
      rw [bX6_digest_167 h5, nI_add]
      exact ih (w + 1) (by omega)
  have l5 : ∀ m k (v4 v5 : Value), v4.category = 1 → v5.category = 1 → m + k = (sSh S).length → eX6_digest (d + 4) Q 137 [.ref 28, .long (fS S k), .null, .int (nI k), v4, v5] [] σ := by
    intro m
    induction m with
    | zero =>
      intro k v4 v5 h4 h5 hk
      rw [bX6_digest_137 h4 h5, k16, k1, show k = (sSh S).length by omega]
      exact ⟨fun _ => hQ, fun q => absurd (Int32.le_refl _) q⟩
    | succ m ih =>
      intro k v4 v5 h4 h5 hk
      have nle : ¬ nI (sSh S).length ≤ nI k := by rw [nI_leE (by omega) (by omega)]; omega
      rw [bX6_digest_137 h4 h5, k16, k1]
      exact ⟨fun q => absurd q nle, fun _ => l6 k v5 h5 (by omega) (fun v4 h4 => ih (k + 1) v4 v5 h4 h5 (by omega)) 8 0 rfl⟩
  have l4 : ∀ c k, c < sNc S → k < (sNo S c).length → (∀ v5 : Value, v5.category = 1 → eX6_digest (d + 4) Q 79 [.ref 28, .long (fN (fC (fCs S c) S c 7) S c (k + 1)), .null, .int (nI c), .int (nI (k + 1)), v5] [] σ) → ∀ m w, m + w = 6 → eX6_digest (d + 4) Q 93 [.ref 28, .long (fN1 (fN (fC (fCs S c) S c 7) S c k) S c k w), .null, .int (nI c), .int (nI k), .int (nI w)] [] σ := by
    intro c k hc hk nx m
    induction m with
    | zero =>
      intro w hw
      rw [bX6_digest_93, show w = 6 by omega, nI_add]
      exact ⟨fun _ => nx _ rfl, fun q => absurd (Int32.le_refl _) q⟩
    | succ m ih =>
      intro w hw
      have nle : ¬ nI 6 ≤ nI w := by rw [nI_leE (by omega) (by omega)]; omega
      rw [bX6_digest_93]
      refine ⟨fun q => absurd q nle, fun _ => M_note1 (d := d) h hI hc hk (by omega) ?_⟩
      simp only [z_toL, List.cons_append, List.nil_append]
      rw [bX6_digest_114, nI_add]
      exact ih (w + 1) (by omega)
  have l3 : ∀ c, c < sNc S → (∀ v4 v5 : Value, v4.category = 1 → v5.category = 1 → eX6_digest (d + 4) Q 37 [.ref 28, .long (fCs S (c + 1)), .null, .int (nI (c + 1)), v4, v5] [] σ) → ∀ m k (v5 : Value), v5.category = 1 → m + k = (sNo S c).length → eX6_digest (d + 4) Q 79 [.ref 28, .long (fN (fC (fCs S c) S c 7) S c k), .null, .int (nI c), .int (nI k), v5] [] σ := by
    intro c hc nx m
    have x12 := (h.2.2.2.2.2.2.1 c (by omega)).1
    have hlen := (hI.1.2.2.2.2.1 c (by omega)).1
    have in4 : vp_in (nI c) 4 := by rw [vp_inE (by omega)]; omega
    have hcl : (nI c).toNatClampNeg = c := nI_clamp (by omega)
    induction m with
    | zero =>
      intro k v5 h5 hk
      rw [bX6_digest_79 h5, hcl, x12, nI_add, show k = (sNo S c).length by omega]
      exact ⟨in4, fun _ => nx _ v5 rfl h5, fun q => absurd (Int32.le_refl _) q⟩
    | succ m ih =>
      intro k v5 h5 hk
      have nle : ¬ nI (sNo S c).length ≤ nI k := by rw [nI_leE (by omega) (by omega)]; omega
      rw [bX6_digest_79 h5, hcl, x12]
      exact ⟨in4, fun q => absurd q nle, fun _ => l4 c k hc (by omega) (fun v5 h5 => ih (k + 1) v5 h5 (by omega)) 6 0 rfl⟩
  have l2 : ∀ c (v5 : Value), v5.category = 1 → c < sNc S → (∀ v4 v5 : Value, v4.category = 1 → v5.category = 1 → eX6_digest (d + 4) Q 37 [.ref 28, .long (fCs S (c + 1)), .null, .int (nI (c + 1)), v4, v5] [] σ) → ∀ m w, m + w = 7 → eX6_digest (d + 4) Q 48 [.ref 28, .long (fC (fCs S c) S c w), .null, .int (nI c), .int (nI w), v5] [] σ := by
    intro c v5 h5 hc nx m
    induction m with
    | zero =>
      intro w hw
      rw [bX6_digest_48 h5, show w = 7 by omega]
      exact ⟨fun _ => l3 c hc nx _ 0 v5 h5 rfl, fun q => absurd (Int32.le_refl _) q⟩
    | succ m ih =>
      intro w hw
      have nle : ¬ nI 7 ≤ nI w := by rw [nI_leE (by omega) (by omega)]; omega
      rw [bX6_digest_48 h5]
      refine ⟨fun q => absurd q nle, fun _ => M_core1 (d := d + 1) h hI hc (by omega) ?_⟩
      simp only [z_toL, List.cons_append, List.nil_append]
      rw [bX6_digest_67 h5, nI_add]
      exact ih (w + 1) (by omega)
  have l1 : ∀ m c (v4 v5 : Value), v4.category = 1 → v5.category = 1 → m + c = sNc S → eX6_digest (d + 4) Q 37 [.ref 28, .long (fCs S c), .null, .int (nI c), v4, v5] [] σ := by
    intro m
    induction m with
    | zero =>
      intro c v4 v5 h4 h5 hc
      rw [bX6_digest_37 h4 h5, k0, show c = sNc S by omega]
      exact ⟨fun _ => l5 _ 0 v4 v5 h4 h5 rfl, fun q => absurd (Int32.le_refl _) q⟩
    | succ m ih =>
      intro c v4 v5 h4 h5 hc
      have nle : ¬ nI (sNc S) ≤ nI c := by rw [nI_leE (by omega) (by omega)]; omega
      rw [bX6_digest_37 h4 h5, k0]
      exact ⟨fun q => absurd q nle, fun _ => l2 c v5 h5 (by omega) (fun v4 v5 h4 h5 => ih (c + 1) v4 v5 h4 h5 (by omega)) 7 0 rfl⟩
  have l0 : ∀ m i, m + i = 48 → eX6_digest (d + 4) Q 6 [.ref 28, .long (fE S i), .null, .int (nI i), .null, .null] [] σ := by
    intro m
    induction m with
    | zero =>
      intro i hi
      rw [bX6_digest_6, show i = 48 by omega]
      exact ⟨fun _ => l1 _ 0 .null .null rfl rfl rfl, fun q => absurd (Int32.le_refl _) q⟩
    | succ m ih =>
      intro i hi
      have nle : ¬ nI 48 ≤ nI i := by rw [nI_leE (by omega) (by omega)]; omega
      have in48 : vp_in (nI i) 48 := by rw [vp_inE (by omega)]; omega
      have cl : (nI i).toNatClampNeg = i := nI_clamp (by omega)
      have e29 : σ 29 i = nI (zlast (sHi S i)) := (h.2.2.2.1 i (by omega)).2.2
      have a5 : zvE (zlast (sHi S i)) := by
        obtain ⟨h3, h4, h5⟩ := hI.1.2.2.1 i (by omega)
        exact h5 _ (zg_mem (x := zh0) (show (sHi S i).length - 1 < _ by omega))
      rw [bX6_digest_6, cl, e29, nI_add]
      refine ⟨fun q => absurd q nle, fun _ => ⟨in48, ?_⟩⟩
      exact zm_told (Q := fun x => eX6_digest (d + 4) Q 6 [.ref 28, .long (31 * fE S i + x.toInt64), .null, .int (nI (i + 1)), .null, .null] [] σ) a5 (ih (i + 1) (by omega))
  rw [nX6_digest, bX6_digest_0]
  exact l0 48 0 rfl
theorem J_digest {n : Nat} {σ : zV} (h : Rel n σ) : zCall (zUn true) 8 yX5_digest [.ref 0] σ (fun v σ1 => zCall (zUn true) 8 yX6_digest [.ref 28] σ1 (fun v' σ2 => ∃ r, v = some (.long r) ∧ v' = some (.long r) ∧ Rel n σ2)) := by
  have h' := h
  obtain ⟨S, hX, hM, hI⟩ := h
  exact X_digest (d := 1) hX hI (M_digest (d := 3) hM hI ⟨_, rfl, rfl, h'⟩)
